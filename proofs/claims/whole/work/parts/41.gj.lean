/-! Elimination without fractions: every cell is a value of the form, so each division leaves no rest. -/
def gj_st (k : Nat) (c : Nat → Nat → Int) (p : Int) : Nat → Nat → Int := fun i q => if i = k then c k q else (c k k * c i q - c i k * c k q) / p
def gj (V : Nat → Nat → Int) : Nat → (Nat → Nat → Int) × Int
  | 0 => (fun i q => V q i, 1)
  | k + 1 => (gj_st k (gj V k).1 (gj V k).2, (gj V k).1 k k)
def gj_T (V : Nat → Nat → Int) (k : Nat) : Nat → Nat → Int := fun s => if s < k then V s else un s
def gj_I (m : Nat) (V : Nat → Nat → Int) (k : Nat) (c : Nat → Nat → Int) (p : Int) : Prop :=
  p = dt m (gj_T V k) ∧ (∀ i q, i < m → c i q = dt m (va_up (gj_T V k) i (V q))) ∧ ∀ q r, r < m → p * V q r = sm m (fun s => c s q * gj_T V k s r)
theorem gj_T0 (V : Nat → Nat → Int) : gj_T V 0 = un := by
  funext s
  unfold gj_T
  rw [if_neg (Nat.not_lt_zero s)]
theorem gj_Ts (V : Nat → Nat → Int) (k : Nat) : gj_T V (k + 1) = va_up (gj_T V k) k (V k) := by
  funext s
  by_cases e : s = k
  · subst e
    rw [va_up_self]
    unfold gj_T
    rw [if_pos (Nat.lt_succ_self s)]
  · rw [va_up_ne _ _ e]
    unfold gj_T
    by_cases c : s < k
    · rw [if_pos c, if_pos (by omega)]
    · rw [if_neg c, if_neg (by omega)]
theorem gj_I0 (m : Nat) (V : Nat → Nat → Int) : gj_I m V 0 (gj V 0).1 (gj V 0).2 := by
  refine ⟨?_, ?_, ?_⟩
  · rw [gj_T0, dt_un]
    rfl
  · intro i q hi
    rw [gj_T0]
    show V q i = _
    have h := dt_sum hi un (V q) un m
    rw [sm_one (k := i) hi (fun s hs hne => ?_), up_id, dt_un] at h
    · rw [dt_congr (T' := va_up un i (fun r => sm m (fun s => V q s * un s r))) (fun s r hs hr => ?_), h]
      · omega
      · by_cases e : s = i
        · subst e
          rw [va_up_self, va_up_self, sm_one (k := r) hr (fun t ht hne => ?_)]
          · unfold un
            rw [if_pos rfl]
            omega
          · unfold un
            rw [if_neg (fun z => hne z.symm)]
            omega
        · rw [va_up_ne _ _ e, va_up_ne _ _ e]
    · rw [dt_same hi hs (fun z => hne z.symm) (va_up un i (un s)) (by rw [va_up_self, va_up_ne _ _ hne])]
      omega
  · intro q r hr
    rw [gj_T0]
    show 1 * V q r = sm m (fun s => V q s * un s r)
    rw [sm_one (k := r) hr (fun t ht hne => ?_)]
    · unfold un
      rw [if_pos rfl]
      omega
    · unfold un
      rw [if_neg (fun z => hne z.symm)]
      omega
/-- one step: the numerator is the divisor times the new value -/
theorem gj_num {m k : Nat} {V c : Nat → Nat → Int} {p : Int} (hk : k < m) (I : gj_I m V k c p) {i q : Nat} (hi : i < m) (hik : i ≠ k) : c k k * c i q - c i k * c k q = p * dt m (va_up (gj_T V (k + 1)) i (V q)) := by
  obtain ⟨h1, h2, h3⟩ := I
  rw [← dt_hom hi, dt_congr (T := va_up (gj_T V (k + 1)) i (fun r => p * V q r)) (T' := va_up (gj_T V (k + 1)) i (fun r => sm m (fun s => c s q * gj_T V k s r))) (fun s r hs hr => ?_), dt_sum hi (gj_T V (k + 1)) (fun s => c s q) (gj_T V k) m]
  · rw [sm_two (k := i) (q := k) hi hk hik (fun s hs h4 h5 => ?_)]
    · have e1 : va_up (gj_T V (k + 1)) i (gj_T V k i) = gj_T V (k + 1) := by
        rw [gj_Ts, up_comm _ (fun z => hik z.symm), up_id]
      have e2 : dt m (va_up (gj_T V (k + 1)) i (gj_T V k k)) = - c i k := by
        rw [gj_Ts, dt_swap hk hi (fun z => hik z.symm), up_id, h2 i k hi]
      have e3 : dt m (gj_T V (k + 1)) = c k k := by
        rw [gj_Ts, h2 k k hk]
      rw [e1, e2, e3]
      generalize c k k = a
      generalize c i q = b
      generalize c i k = x
      generalize c k q = y
      grind
    · rw [dt_same hi hs (fun z => h4 z.symm) _ (by rw [va_up_self, va_up_ne _ _ h4, gj_Ts, va_up_ne _ _ h5])]
      omega
  · by_cases e : s = i
    · subst e
      rw [va_up_self, va_up_self]
      exact h3 q r hr
    · rw [va_up_ne _ _ e, va_up_ne _ _ e]
theorem gj_cell {m k : Nat} {V c : Nat → Nat → Int} {p : Int} (hk : k < m) (hp : p ≠ 0) (I : gj_I m V k c p) {i q : Nat} (hi : i < m) : gj_st k c p i q = dt m (va_up (gj_T V (k + 1)) i (V q)) := by
  unfold gj_st
  by_cases e : i = k
  · rw [if_pos e, e, gj_Ts]
    rw [show va_up (va_up (gj_T V k) k (V k)) k (V q) = va_up (gj_T V k) k (V q) from bx_uu _ _ _ _]
    exact I.2.1 k q hk
  · rw [if_neg e, gj_num hk I hi e, Int.mul_ediv_cancel_left _ hp]
theorem gj_ex {m k : Nat} {V c : Nat → Nat → Int} {p : Int} (hk : k < m) (hp : p ≠ 0) (I : gj_I m V k c p) {i q : Nat} (hi : i < m) (hik : i ≠ k) : p * gj_st k c p i q = c k k * c i q - c i k * c k q := by
  rw [gj_cell hk hp I hi, gj_num hk I hi hik]
theorem gj_Is {m k : Nat} {V c : Nat → Nat → Int} {p : Int} (hk : k < m) (hp : p ≠ 0) (I : gj_I m V k c p) : gj_I m V (k + 1) (gj_st k c p) (c k k) := by
  refine ⟨?_, fun i q hi => gj_cell hk hp I hi, fun q r hr => ?_⟩
  · rw [gj_Ts, I.2.1 k k hk]
  · obtain ⟨h1, h2, h3⟩ := id I
    refine Int.eq_of_mul_eq_mul_left hp ?_
    have e1 := h3 q r hr
    have e2 := h3 k r hr
    have key : p * sm m (fun s => gj_st k c p s q * gj_T V (k + 1) s r) = sm m (fun s => (c k k * c s q - c s k * c k q) * gj_T V k s r) + c k q * (p * V k r) := by
      rw [← sm_mul]
      have hs1 : sm m (fun s => p * (gj_st k c p s q * gj_T V (k + 1) s r)) = sm m (fun s => (c k k * c s q - c s k * c k q) * gj_T V k s r + (if s = k then c k q * (p * V k r) else 0)) := by
        refine sm_congr (fun s hs => ?_)
        by_cases e : s = k
        · subst e
          rw [if_pos rfl, gj_Ts, va_up_self]
          unfold gj_st
          rw [if_pos rfl]
          generalize c s s = a
          generalize c s q = b
          generalize V s r = x
          generalize gj_T V s s r = y
          grind
        · rw [if_neg e, gj_Ts, va_up_ne _ _ e, ← Int.mul_assoc, gj_ex hk hp I hs e]
          omega
      rw [hs1, sm_add, sm_one (f := fun s => if s = k then c k q * (p * V k r) else 0) (k := k) hk (fun s _ hne => if_neg hne), if_pos rfl]
    rw [key]
    have e3 : sm m (fun s => (c k k * c s q - c s k * c k q) * gj_T V k s r) = c k k * (p * V q r) - c k q * (p * V k r) := by
      rw [e1, e2, ← sm_mul, ← sm_mul, ← sm_sub]
      refine sm_congr (fun s hs => ?_)
      generalize c k k = a
      generalize c s q = b
      generalize c s k = x
      generalize c k q = y
      generalize gj_T V k s r = z
      grind
    rw [e3]
    generalize c k k = a
    generalize V q r = x
    generalize c k q * (p * V k r) = z
    grind
/-- what the matrix of the equations is -/
def gj_M (m : Nat) (A : Nat → Nat → Int) : Prop :=
  (∀ i j, i < m → j < m → i ≠ j → A i j ≤ 0) ∧ (∀ i, i < m → 0 ≤ sm m (fun j => A i j)) ∧ (∀ j, j < m → 0 ≤ sm m (fun i => A i j)) ∧ ∀ y : Nat → Int, (∃ a, a < m ∧ y a ≠ 0) → 0 < sm m (fun a => y a * sm m (fun b => A a b * y b))
def gj_V (m : Nat) (A : Nat → Nat → Int) : Nat → Nat → Int := fun q r => if q < m then A r q else un (q - m) r
/-- signs, sums and bounds at a step -/
def gj_B (m : Nat) (A : Nat → Nat → Int) (k : Nat) (c : Nat → Nat → Int) (p : Int) : Prop :=
  0 < p ∧ (∀ i j, i < m → j < m → k ≤ j → i ≠ j → c i j ≤ 0) ∧ (∀ i j, i < m → j < k → c i j = if i = j then p else 0) ∧ (∀ i, i < m → 0 ≤ sm m (fun j => c i j)) ∧ (∀ i j, i < m → j < m → 0 ≤ c i (m + j)) ∧ (∀ i, i < m → k ≤ i → c i i ≤ p * A i i)
theorem gj_B0 {m : Nat} {A : Nat → Nat → Int} (M : gj_M m A) : gj_B m A 0 (gj (gj_V m A) 0).1 (gj (gj_V m A) 0).2 := by
  have hv : ∀ i j, j < m → (gj (gj_V m A) 0).1 i j = A i j := fun i j hj => by
    show gj_V m A j i = _
    unfold gj_V
    rw [if_pos hj]
  refine ⟨by show (0 : Int) < 1; decide, fun i j hi hj _ hne => ?_, fun i j _ hj => absurd hj (Nat.not_lt_zero j), fun i hi => ?_, fun i j hi hj => ?_, fun i hi _ => ?_⟩
  · rw [hv i j hj]
    exact M.1 i j hi hj hne
  · rw [sm_congr (g := fun j => A i j) (fun j hj => hv i j hj)]
    exact M.2.1 i hi
  · show 0 ≤ gj_V m A (m + j) i
    unfold gj_V un
    rw [if_neg (by omega)]
    split <;> decide
  · rw [hv i i hi]
    show A i i ≤ 1 * A i i
    omega
/-- the next divisor is above 0: the energy of a vector that isn't 0 -/
theorem gj_pos {m k : Nat} {A c : Nat → Nat → Int} {p : Int} (hk : k < m) (M : gj_M m A) (I : gj_I m (gj_V m A) k c p) (hp : 0 < p) : 0 < c k k := by
  obtain ⟨h1, h2, h3⟩ := id I
  -- y = p at k, - c s k ahead of it
  have hAy : ∀ r, r < m → sm m (fun b => A r b * (if b < k then - c b k else if b = k then p else 0)) = if k ≤ r then c r k else 0 := by
    intro r hr
    have e := h3 k r hr
    unfold gj_V at e
    rw [if_pos hk] at e
    have e2 : sm m (fun b => A r b * (if b < k then - c b k else if b = k then p else 0)) = p * A r k - sm m (fun s => if s < k then c s k * A r s else 0) := by
      have e3 : sm m (fun b => if b = k then p * A r k else 0) = p * A r k := by
        rw [sm_one (k := k) hk (fun s _ hne => if_neg hne), if_pos rfl]
      rw [← e3, ← sm_sub]
      refine sm_congr (fun b hb => ?_)
      by_cases c1 : b < k
      · rw [if_pos c1, if_pos c1, if_neg (by omega)]
        generalize c b k = x
        generalize A r b = y
        grind
      · rw [if_neg c1, if_neg c1]
        by_cases c2 : b = k
        · subst c2
          rw [if_pos rfl, if_pos rfl]
          generalize A r b = y
          grind
        · rw [if_neg c2, if_neg c2]
          omega
    rw [e2, e, ← sm_sub]
    rw [sm_congr (g := fun s => if s = r then (if k ≤ r then c r k else 0) else 0) (fun s hs => ?_), sm_one (k := r) hr (fun s _ hne => if_neg hne), if_pos rfl]
    unfold gj_T
    by_cases c1 : s < k
    · rw [if_pos c1, if_pos c1]
      show c s k * (if s < m then A r s else un (s - m) r) - c s k * A r s = _
      rw [if_pos hs]
      by_cases c2 : s = r
      · subst c2
        rw [if_pos rfl, if_neg (by omega)]
        omega
      · rw [if_neg c2]
        omega
    · rw [if_neg c1, if_neg c1]
      unfold un
      by_cases c2 : s = r
      · subst c2
        rw [if_pos rfl, if_pos rfl, if_pos (by omega)]
        omega
      · rw [if_neg c2, if_neg (fun z => c2 z.symm)]
        omega
  have hpd := M.2.2.2 (fun b => if b < k then - c b k else if b = k then p else 0) ⟨k, hk, by
    show (if k < k then - c k k else if k = k then p else 0) ≠ 0
    rw [if_neg (Nat.lt_irrefl k), if_pos rfl]
    omega⟩
  rw [sm_congr (g := fun a => if a = k then p * c k k else 0) (fun a ha => ?_), sm_one (k := k) hk (fun s _ hne => if_neg hne), if_pos rfl] at hpd
  · exact Int.pos_of_mul_pos_right hpd hp
  · rw [hAy a ha]
    by_cases c1 : a < k
    · rw [if_pos c1, if_neg (by omega), if_neg (by omega)]
      omega
    · rw [if_neg c1]
      by_cases c2 : a = k
      · subst c2
        rw [if_pos rfl, if_pos (Nat.le_refl a), if_pos rfl]
      · rw [if_neg c2, if_neg c2]
        omega
