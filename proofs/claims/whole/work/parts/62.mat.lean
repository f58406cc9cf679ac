/-! The equations of a book: unknown months, matrix, right side; signs, bounds, energy. -/
def dl (a b : Nat) : Int := if a = b then 1 else 0
theorem dl_p {a b : Nat} (h : a = b) : dl a b = 1 := if_pos h
theorem dl_n {a b : Nat} (h : a ≠ b) : dl a b = 0 := if_neg h
def uu (π : Nat → Nat) : Nat → Nat × (Nat → Nat)
  | 0 => (0, fun _ => 0)
  | x + 1 => if π x = x then uu π x else ((uu π x).1 + 1, va_up (uu π x).2 (uu π x).1 x)
theorem uu_p {π : Nat → Nat} {x : Nat} (h : π x = x) : uu π (x + 1) = uu π x := by rw [uu, if_pos h]
theorem uu_n {π : Nat → Nat} {x : Nat} (h : π x ≠ x) : uu π (x + 1) = ((uu π x).1 + 1, va_up (uu π x).2 (uu π x).1 x) := by rw [uu, if_neg h]
theorem uu_ok (π : Nat → Nat) : ∀ x, (∀ a, a < (uu π x).1 → (uu π x).2 a < x ∧ π ((uu π x).2 a) ≠ (uu π x).2 a ∧ (uu π ((uu π x).2 a)).1 = a) ∧ ∀ y, y < x → π y ≠ y → (uu π y).1 < (uu π x).1 ∧ (uu π x).2 (uu π y).1 = y
  | 0 => ⟨fun a h => absurd h (Nat.not_lt_zero a), fun y h => absurd h (Nat.not_lt_zero y)⟩
  | x + 1 => by
    obtain ⟨h1, h2⟩ := uu_ok π x
    by_cases c : π x = x
    · rw [uu_p c]
      refine ⟨fun a ha => ?_, fun y hy hne => ?_⟩
      · have := h1 a ha
        exact ⟨by omega, this.2⟩
      · by_cases e : y = x
        · subst e
          exact absurd c hne
        · exact h2 y (by omega) hne
    · rw [uu_n c]
      refine ⟨fun a ha => ?_, fun y hy hne => ?_⟩
      · have ha : a < (uu π x).1 + 1 := ha
        show va_up (uu π x).2 (uu π x).1 x a < x + 1 ∧ π (va_up (uu π x).2 (uu π x).1 x a) ≠ va_up (uu π x).2 (uu π x).1 x a ∧ (uu π (va_up (uu π x).2 (uu π x).1 x a)).1 = a
        by_cases e : a = (uu π x).1
        · rw [e, va_up_self]
          exact ⟨by omega, c, rfl⟩
        · rw [va_up_ne _ _ e]
          have := h1 a (by omega)
          exact ⟨by omega, this.2⟩
      · show (uu π y).1 < (uu π x).1 + 1 ∧ va_up (uu π x).2 (uu π x).1 x (uu π y).1 = y
        by_cases e : y = x
        · subst e
          exact ⟨by omega, va_up_self _ _ _⟩
        · have := h2 y (by omega) hne
          rw [va_up_ne _ _ (by omega)]
          exact ⟨by omega, this.2⟩
theorem uu_le {π : Nat → Nat} (h0 : π 0 = 0) : ∀ x, (uu π (x + 1)).1 ≤ x
  | 0 => by rw [uu_p h0]; exact Nat.le_refl 0
  | x + 1 => by
    have ih := uu_le h0 x
    by_cases c : π (x + 1) = x + 1
    · rw [uu_p c]
      omega
    · rw [uu_n c]
      show (uu π (x + 1)).1 + 1 ≤ x + 1
      omega
def um (β : BK) : Nat := (uu (pt β) (bk_n β)).1
def uU (β : BK) : Nat → Nat := (uu (pt β) (bk_n β)).2
def ui (β : BK) (x : Nat) : Nat := (uu (pt β) x).1
def dW (β : BK) (i : Nat) : Int := (rw1 β (pF β i) : Int)
def dR (β : BK) (i : Nat) : Int := (bk_v β (8 * (pF β i).1 + (pF β i).2.2) : Int) - (bk_v β (8 * (pF β i).1 + (pF β i).2.1) : Int)
def dD (β : BK) (i a : Nat) : Int := dl (uU β a) (pF β i).2.2 - dl (uU β a) (pF β i).2.1
def dAk (β : BK) (k a b : Nat) : Int := sm k (fun i => dW β i * (dD β i a * dD β i b))
def dGk (β : BK) (k a : Nat) : Int := sm k (fun i => dW β i * (dR β i * dD β i a))
def dA (β : BK) (a b : Nat) : Int := dAk β (pk β) a b
def dG (β : BK) (a : Nat) : Int := dGk β (pk β) a
def dJ (β : BK) (k : Nat) : (Nat → Nat → Int) × Int := gj (gj_V (um β) (dA β)) k
def dX (β : BK) (a b : Nat) : Int := (dJ β (um β)).1 a (um β + b)
def bt (β : BK) : Int := (dJ β (um β)).2
def xx (β : BK) (a : Nat) : Int := sm (um β) (fun b => dX β a b * dG β b)
def tp (β : BK) (x : Nat) : Int := sm (um β) (fun a => xx β a * dl (uU β a) x)
def sq (β : BK) : Int := sm (pk β) (fun i => dW β i * (dR β i * dR β i))
def er (β : BK) : Int := bt β * sq β - sm (um β) (fun a => xx β a * dG β a)
section MAT
variable {β : BK}
theorem pt0 (hb : bk_ok β) : pt β 0 = 0 := by
  have := (pt_ok (β := β) (Nat.le_refl _)).2.1 0 (by have := hb.1; omega)
  omega
theorem um_le (hb : bk_ok β) : um β ≤ 7 ∧ um β < bk_n β := by
  have := uu_le (pt0 hb) (bk_n β - 1)
  have h1 := hb.1
  have h2 := hb.2.1
  rw [show bk_n β - 1 + 1 = bk_n β by omega] at this
  unfold um
  omega
theorem uU_ok {a : Nat} (ha : a < um β) : uU β a < bk_n β ∧ pt β (uU β a) ≠ uU β a ∧ ui β (uU β a) = a := (uu_ok (pt β) (bk_n β)).1 a ha
theorem ui_ok {x : Nat} (hx : x < bk_n β) (hne : pt β x ≠ x) : ui β x < um β ∧ uU β (ui β x) = x := (uu_ok (pt β) (bk_n β)).2 x hx hne
theorem uU_inj {a b : Nat} (ha : a < um β) (hb : b < um β) (e : uU β a = uU β b) : a = b := by
  have h1 := (uU_ok ha).2.2
  have h2 := (uU_ok hb).2.2
  rw [e] at h1
  omega
/-- a sum over the unknown months that picks one -/
theorem dl_un {x : Nat} (hx : x < bk_n β) (hne : pt β x ≠ x) (f : Nat → Int) : sm (um β) (fun a => f a * dl (uU β a) x) = f (ui β x) := by
  obtain ⟨h1, h2⟩ := ui_ok hx hne
  rw [sm_one (k := ui β x) h1 (fun a ha hn => ?_)]
  · rw [dl_p h2]
    omega
  · rw [dl_n (fun e => hn (uU_inj ha h1 (e.trans h2.symm)))]
    omega
theorem dl_fi {x : Nat} (he : pt β x = x) (f : Nat → Int) : sm (um β) (fun a => f a * dl (uU β a) x) = 0 := sm_zero (fun a ha => by
  rw [dl_n (fun e => (uU_ok ha).2.1 (by rw [e]; exact he))]
  omega)
theorem dE {x : Nat} (hx : x < bk_n β) : sm (um β) (fun a => dl (uU β a) x) = if pt β x = x then 0 else 1 := by
  rw [sm_congr (g := fun a => 1 * dl (uU β a) x) (fun a _ => by omega)]
  by_cases c : pt β x = x
  · rw [if_pos c]
    exact dl_fi c (fun _ => 1)
  · rw [if_neg c]
    exact dl_un hx c (fun _ => 1)
theorem dW_b (hb : bk_ok β) (i : Nat) : 1 ≤ dW β i ∧ dW β i ≤ 3 := by
  have := wt_le hb ((pF β i).2.2 - (pF β i).2.1)
  unfold dW rw1
  omega
theorem dR_b (hb : bk_ok β) (i : Nat) : -1000 ≤ dR β i ∧ dR β i ≤ 1000 := by
  have h1 := hb.2.2.2.2.2.1 (8 * (pF β i).1 + (pF β i).2.2)
  have h2 := hb.2.2.2.2.2.1 (8 * (pF β i).1 + (pF β i).2.1)
  unfold dR
  omega
theorem dD_b (i a : Nat) : -1 ≤ dD β i a ∧ dD β i a ≤ 1 := by
  unfold dD dl
  split <;> split <;> omega
theorem dD_sq {i : Nat} (hi : i < pk β) (a : Nat) : dD β i a * dD β i a = dl (uU β a) (pF β i).2.2 + dl (uU β a) (pF β i).2.1 := by
  have v := (pF_v hi).2.1
  unfold dD dl
  by_cases c : uU β a = (pF β i).2.2
  · rw [if_pos c, if_neg (by omega)]
    omega
  · rw [if_neg c]
    split <;> omega
theorem dD_off {i a b : Nat} (hi : i < pk β) (ha : a < um β) (hb : b < um β) (hne : a ≠ b) : dD β i a * dD β i b ≤ 0 := by
  have v := (pF_v hi).2.1
  have hU : uU β a ≠ uU β b := fun e => hne (uU_inj ha hb e)
  unfold dD dl
  by_cases c1 : uU β a = (pF β i).2.2
  · rw [if_pos c1, if_neg (show ¬ uU β a = (pF β i).2.1 by omega), if_neg (show ¬ uU β b = (pF β i).2.2 by omega)]
    split <;> omega
  · rw [if_neg c1]
    by_cases c2 : uU β a = (pF β i).2.1
    · rw [if_pos c2, if_neg (show ¬ uU β b = (pF β i).2.1 by omega)]
      split <;> omega
    · rw [if_neg c2]
      omega
theorem dA_sym (k a b : Nat) : dAk β k a b = dAk β k b a := sm_congr (fun i _ => by rw [Int.mul_comm (dD β i a)])
theorem dA_off (hb : bk_ok β) {a b : Nat} (ha : a < um β) (hb2 : b < um β) (hne : a ≠ b) : dA β a b ≤ 0 := by
  have := sm_nn (n := pk β) (f := fun i => - (dW β i * (dD β i a * dD β i b))) (fun i hi => by
    have := int_mul_pn (show 0 ≤ dW β i by have := dW_b hb i; omega) (dD_off hi ha hb2 hne)
    show 0 ≤ - (dW β i * (dD β i a * dD β i b))
    omega)
  rw [sm_neg] at this
  unfold dA dAk
  omega
theorem dA_row (hb : bk_ok β) {a : Nat} (ha : a < um β) : 0 ≤ sm (um β) (fun b => dA β a b) := by
  have e : sm (um β) (fun b => dA β a b) = sm (pk β) (fun i => dW β i * (dD β i a * sm (um β) (fun b => dD β i b))) := by
    unfold dA dAk
    rw [sm_comm]
    exact sm_congr (fun i _ => by rw [sm_mul, sm_mul])
  rw [e]
  refine sm_nn (fun i hi => Int.mul_nonneg (by have := dW_b hb i; omega) ?_)
  obtain ⟨_, v1, v2⟩ := pF_v hi
  have e2 : sm (um β) (fun b => dD β i b) = (if pt β (pF β i).2.2 = (pF β i).2.2 then 0 else 1) - (if pt β (pF β i).2.1 = (pF β i).2.1 then 0 else 1) := by
    rw [← dE v2, ← dE (x := (pF β i).2.1) (by omega), ← sm_sub]
    rfl
  rw [e2]
  have hU := (uU_ok ha).2.1
  unfold dD dl
  by_cases c1 : uU β a = (pF β i).2.2
  · rw [if_pos c1, if_neg (show ¬ uU β a = (pF β i).2.1 by omega), ← c1, if_neg hU]
    split <;> omega
  · rw [if_neg c1]
    by_cases c2 : uU β a = (pF β i).2.1
    · rw [if_pos c2, ← c2, if_neg hU]
      split <;> omega
    · rw [if_neg c2]
      omega
/-- the energy of a vector -/
theorem dA_en (y z : Nat → Int) : sm (um β) (fun a => y a * sm (um β) (fun b => dA β a b * z b)) = sm (pk β) (fun i => dW β i * (sm (um β) (fun a => y a * dD β i a) * sm (um β) (fun b => z b * dD β i b))) := by
  have e1 : ∀ a, sm (um β) (fun b => dA β a b * z b) = sm (pk β) (fun i => dW β i * (dD β i a * sm (um β) (fun b => z b * dD β i b))) := fun a => by
    rw [sm_congr (g := fun b => sm (pk β) (fun i => dW β i * (dD β i a * (z b * dD β i b)))) (fun b _ => ?_), sm_comm]
    · exact sm_congr (fun i _ => by rw [sm_mul, sm_mul])
    · unfold dA dAk
      rw [Int.mul_comm, ← sm_mul]
      refine sm_congr (fun i _ => ?_)
      generalize dW β i = w
      generalize dD β i a = p
      generalize dD β i b = q
      generalize z b = r
      grind
  rw [sm_congr (g := fun a => sm (pk β) (fun i => dW β i * ((y a * dD β i a) * sm (um β) (fun b => z b * dD β i b)))) (fun a _ => ?_), sm_comm]
  · refine sm_congr (fun i _ => ?_)
    rw [sm_mul]
    congr 1
    rw [Int.mul_comm, ← sm_mul]
    exact sm_congr (fun a _ => Int.mul_comm _ _)
  · rw [e1, ← sm_mul]
    refine sm_congr (fun i _ => ?_)
    generalize dW β i = w
    generalize dD β i a = p
    generalize sm (um β) (fun b => z b * dD β i b) = q
    generalize y a = r
    grind
theorem sm_pos0 {f : Nat → Int} {n : Nat} (h : ∀ i, i < n → 0 ≤ f i) (hs : ¬ 0 < sm n f) : ∀ i, i < n → f i = 0 := fun i hi => by
  have := sm_ge1 hi h
  have := h i hi
  omega
theorem dA_M (hb : bk_ok β) : gj_M (um β) (dA β) := by
  refine ⟨fun i j hi hj hne => dA_off hb hi hj hne, fun i hi => dA_row hb hi, fun j hj => ?_, fun y hy => ?_⟩
  · rw [sm_congr (f := fun i => dA β i j) (g := fun i => dA β j i) (fun i _ => dA_sym _ i j)]
    exact dA_row hb hj
  · rw [dA_en]
    obtain ⟨a, ha, hya⟩ := hy
    have hnn : ∀ i, i < pk β → 0 ≤ dW β i * (sm (um β) (fun a => y a * dD β i a) * sm (um β) (fun b => y b * dD β i b)) := fun i _ => by
      refine Int.mul_nonneg (by have := dW_b hb i; omega) ?_
      generalize sm (um β) (fun a => y a * dD β i a) = q
      rcases Int.le_total 0 q with z | z
      · exact Int.mul_nonneg z z
      · exact int_mul_np z z
    by_cases c : 0 < sm (pk β) (fun i => dW β i * (sm (um β) (fun a => y a * dD β i a) * sm (um β) (fun b => y b * dD β i b)))
    · exact c
    · exfalso
      have z := sm_pos0 hnn c
      have hd : ∀ i, i < pk β → sm (um β) (fun a => y a * dl (uU β a) (pF β i).2.1) = sm (um β) (fun a => y a * dl (uU β a) (pF β i).2.2) := fun i hi => by
        have w := dW_b hb i
        have zi := (Int.mul_eq_zero.mp (z i hi)).resolve_left (by omega)
        have zi : sm (um β) (fun a => y a * dD β i a) = 0 := by
          rcases Int.mul_eq_zero.mp zi with q | q <;> exact q
        have e : sm (um β) (fun a => y a * dD β i a) = sm (um β) (fun a => y a * dl (uU β a) (pF β i).2.2) - sm (um β) (fun a => y a * dl (uU β a) (pF β i).2.1) := by
          rw [← sm_sub]
          exact sm_congr (fun a _ => by unfold dD; rw [Int.mul_sub])
        omega
      have T := pt_ok (β := β) (Nat.le_refl _)
      obtain ⟨h1, h2, h3⟩ := uU_ok ha
      have q := T.2.2 (fun x => sm (um β) (fun a => y a * dl (uU β a) x)) hd (uU β a) h1
      have q : sm (um β) (fun b => y b * dl (uU β b) (pt β (uU β a))) = sm (um β) (fun b => y b * dl (uU β b) (uU β a)) := q
      rw [dl_fi (PT_i T h1), dl_un h1 h2, h3] at q
      exact hya q.symm
/-! Bounds. -/
theorem dA_d (hb : bk_ok β) (hk : pk β ≤ 18) {a : Nat} : 0 ≤ dA β a a ∧ dA β a a ≤ 54 := by
  constructor
  · refine sm_nn (fun i hi => Int.mul_nonneg (by have := dW_b hb i; omega) ?_)
    rw [dD_sq hi]
    unfold dl
    split <;> split <;> omega
  · have : dA β a a ≤ sm (pk β) (fun _ => 3) := sm_le (fun i hi => by
      have w := dW_b hb i
      rw [dD_sq hi]
      have v := (pF_v hi).2.1
      have : dl (uU β a) (pF β i).2.2 + dl (uU β a) (pF β i).2.1 = 0 ∨ dl (uU β a) (pF β i).2.2 + dl (uU β a) (pF β i).2.1 = 1 := by
        unfold dl
        by_cases c : uU β a = (pF β i).2.2
        · rw [if_pos c, if_neg (by omega)]
          omega
        · rw [if_neg c]
          split <;> omega
      rcases this with e | e <;> rw [e] <;> omega)
    have e : ∀ n : Nat, sm n (fun _ => (3 : Int)) = 3 * n := fun n => by
      induction n with
      | zero => rfl
      | succ n ih => rw [sm, ih]; omega
    rw [e] at this
    omega
theorem dA_tr (hb : bk_ok β) (hk : pk β ≤ 18) : sm (um β) (fun a => dA β a a) ≤ 108 := by
  have e : sm (um β) (fun a => dA β a a) = sm (pk β) (fun i => dW β i * sm (um β) (fun a => dD β i a * dD β i a)) := by
    unfold dA dAk
    rw [sm_comm]
    exact sm_congr (fun i _ => by rw [sm_mul])
  rw [e]
  have : sm (pk β) (fun i => dW β i * sm (um β) (fun a => dD β i a * dD β i a)) ≤ sm (pk β) (fun _ => 6) := sm_le (fun i hi => by
    have w := dW_b hb i
    obtain ⟨_, v1, v2⟩ := pF_v hi
    have e2 : sm (um β) (fun a => dD β i a * dD β i a) = (if pt β (pF β i).2.2 = (pF β i).2.2 then 0 else 1) + (if pt β (pF β i).2.1 = (pF β i).2.1 then 0 else 1) := by
      rw [← dE v2, ← dE (x := (pF β i).2.1) (by omega), ← sm_add]
      exact sm_congr (fun a _ => dD_sq hi a)
    rw [e2]
    split <;> split <;> omega)
  have e : ∀ n : Nat, sm n (fun _ => (6 : Int)) = 6 * n := fun n => by
    induction n with
    | zero => rfl
    | succ n ih => rw [sm, ih]; omega
  rw [e] at this
  omega
theorem p11 : ∀ a, a < 55 → (max 1 a) ^ 11 ≤ 2 ^ (28 + a) := by decide
theorem gP_11 {A : Nat → Nat → Int} : ∀ m, (∀ a, a < m → 0 ≤ A a a ∧ A a a ≤ 54) → ∃ N s : Nat, gj_P A m = N ∧ sm m (fun a => A a a) = s ∧ N ^ 11 ≤ 2 ^ (28 * m + s)
  | 0, _ => ⟨1, 0, rfl, rfl, by decide⟩
  | m + 1, h => by
    obtain ⟨N, s, h1, h2, h3⟩ := gP_11 m (fun a ha => h a (by omega))
    have hm := h m (by omega)
    obtain ⟨x, hx⟩ : ∃ x : Nat, A m m = x := ⟨(A m m).toNat, by omega⟩
    refine ⟨N * max 1 x, s + x, ?_, ?_, ?_⟩
    · rw [gj_P, h1, hx]
      have : max (1 : Int) (x : Int) = ((max 1 x : Nat) : Int) := by omega
      rw [this]
      exact (Int.natCast_mul _ _).symm
    · rw [sm, h2, hx]
      rfl
    · rw [Nat.mul_pow, show 28 * (m + 1) + (s + x) = (28 * m + s) + (28 + x) by omega, Nat.pow_add]
      exact Nat.mul_le_mul h3 (p11 x (by omega))
theorem gP_28 (hb : bk_ok β) (hk : pk β ≤ 18) : gj_P (dA β) (um β) ≤ 268435456 := by
  obtain ⟨N, s, h1, h2, h3⟩ := gP_11 (A := dA β) (um β) (fun a _ => dA_d hb hk)
  have t := dA_tr hb hk
  have u := (um_le hb).1
  rw [h1]
  by_cases c : N ≤ 268435456
  · omega
  · exfalso
    have key : ∀ e : Nat, e = 11 → ¬ (N ^ e ≤ 2 ^ (28 * um β + s)) := fun e he h => by
      have h4 : 268435456 ^ e < N ^ e := Nat.pow_lt_pow_left (by omega) (by omega)
      rw [show 268435456 = 2 ^ 28 by decide, ← Nat.pow_mul] at h4
      have h5 : 2 ^ (28 * um β + s) ≤ 2 ^ (28 * e) := Nat.pow_le_pow_right (by decide) (by omega)
      exact absurd (Nat.lt_of_lt_of_le h4 (Nat.le_trans h h5)) (Nat.lt_irrefl _)
    exact key 11 rfl h3
theorem gP_k (A : Nat → Nat → Int) {k m : Nat} (h : k ≤ m) : gj_P A k ≤ gj_P A m := by
  have := gj_Pm A k (m - k)
  rw [show k + (m - k) = m by omega] at this
  exact this
theorem dJ_IB (hb : bk_ok β) {k : Nat} (h : k ≤ um β) : gj_I (um β) (gj_V (um β) (dA β)) k (dJ β k).1 (dJ β k).2 ∧ gj_B (um β) (dA β) k (dJ β k).1 (dJ β k).2 := gj_all (dA_M hb) k h
theorem dJ_p (hb : bk_ok β) (hk : pk β ≤ 18) {k : Nat} (h : k ≤ um β) : 0 < (dJ β k).2 ∧ (dJ β k).2 ≤ 268435456 := by
  have h1 := gj_pP (dA_M hb) k h
  have h2 := gP_k (dA β) h
  have h3 := gP_28 hb hk
  refine ⟨(dJ_IB hb h).2.1, ?_⟩
  unfold dJ
  omega
theorem dJ_l (hb : bk_ok β) (hk : pk β ≤ 18) {k : Nat} (h : k ≤ um β) {i j : Nat} (hi : i < um β) (hj : j < um β) : -14495514624 ≤ (dJ β k).1 i j ∧ (dJ β k).1 i j ≤ 14495514624 := by
  have h1 := gj_left (dJ_IB hb h).2 hi hj
  have h2 := dJ_p hb hk h
  have h3 := dA_d hb hk (a := i)
  have h4 : (dJ β k).2 * max 1 (dA β i i) ≤ 268435456 * 54 := Int.mul_le_mul h2.2 (by omega) (by omega) (by omega)
  omega
theorem dJ_r (hb : bk_ok β) (hk : pk β ≤ 18) {k : Nat} (h : k ≤ um β) {i j : Nat} (hi : i < um β) (hj : j < um β) : 0 ≤ (dJ β k).1 i (um β + j) ∧ (dJ β k).1 i (um β + j) ≤ 2147483648 := by
  have h1 := gj_right (dA_M hb) k h i j hi hj
  have h2 := gP_k (dA β) h
  have h3 := gP_28 hb hk
  have h4 := (um_le hb).1
  have h5 := (dJ_IB hb h).2.2.2.2.2.1 i j hi hj
  refine ⟨h5, ?_⟩
  have h6 : ((k : Int) + 1) * gj_P (dA β) k ≤ 8 * 268435456 := Int.mul_le_mul (by omega) (by omega) (by have := gj_P1 (dA β) k; omega) (by omega)
  unfold dJ
  omega
theorem dJ_q (hb : bk_ok β) (hk : pk β ≤ 18) {k : Nat} (h : k ≤ um β) {i q : Nat} (hi : i < um β) (hq : q < 2 * um β) : -14495514624 ≤ (dJ β k).1 i q ∧ (dJ β k).1 i q ≤ 14495514624 := by
  by_cases c : q < um β
  · exact dJ_l hb hk h hi c
  · have := dJ_r hb hk h hi (j := q - um β) (by omega)
    rw [show um β + (q - um β) = q by omega] at this
    omega
/-- the row of the pivot -/
theorem dJ_k (hb : bk_ok β) (hk : pk β ≤ 18) {k : Nat} (h : k < um β) {q : Nat} (hq : q < 2 * um β) : -268435456 ≤ (dJ β k).1 k q ∧ (dJ β k).1 k q ≤ 268435456 := by
  obtain ⟨I, B⟩ := dJ_IB hb (k := k) (by omega)
  have p1 := gj_pP (dA_M hb) k (by omega)
  have p2 := gP_k (dA β) (k := k + 1) (m := um β) h
  have p3 := gP_28 hb hk
  have p4 := dJ_p hb hk (k := k) (by omega)
  by_cases c : q < um β
  · have l := gj_left B h c
    have e : gj_P (dA β) (k + 1) = gj_P (dA β) k * max 1 (dA β k k) := rfl
    have m1 : (dJ β k).2 * max 1 (dA β k k) ≤ gj_P (dA β) k * max 1 (dA β k k) := Int.mul_le_mul_of_nonneg_right p1 (by omega)
    omega
  · have r := gj_right_lo (j := q - um β) (by omega) (dA_M hb) I B h (Nat.le_refl k) (by omega)
    have r0 := B.2.2.2.2.1 k (q - um β) h (by omega)
    rw [show um β + (q - um β) = q by omega] at r r0
    omega
theorem dJ_pv (hb : bk_ok β) (hk : pk β ≤ 18) {k : Nat} (h : k < um β) : 0 < (dJ β k).1 k k ∧ (dJ β k).1 k k ≤ 268435456 := dJ_p (k := k + 1) hb hk h
theorem i_mul_b {a b x y : Int} (h1 : -x ≤ a) (h2 : a ≤ x) (h3 : -y ≤ b) (h4 : b ≤ y) : -(x * y) ≤ a * b ∧ a * b ≤ x * y := by
  have p1 := Int.mul_nonneg (show 0 ≤ x - a by omega) (show 0 ≤ y + b by omega)
  have p2 := Int.mul_nonneg (show 0 ≤ x + a by omega) (show 0 ≤ y - b by omega)
  have p3 := Int.mul_nonneg (show 0 ≤ x - a by omega) (show 0 ≤ y - b by omega)
  have p4 := Int.mul_nonneg (show 0 ≤ x + a by omega) (show 0 ≤ y + b by omega)
  have e1 : (x - a) * (y + b) = x * y + x * b - a * y - a * b := by grind
  have e2 : (x + a) * (y - b) = x * y - x * b + a * y - a * b := by grind
  have e3 : (x - a) * (y - b) = x * y - x * b - a * y + a * b := by grind
  have e4 : (x + a) * (y + b) = x * y + x * b + a * y + a * b := by grind
  omega
theorem sm_b {f : Nat → Int} {b : Int} : ∀ {n : Nat}, (∀ i, i < n → -b ≤ f i ∧ f i ≤ b) → -(n * b) ≤ sm n f ∧ sm n f ≤ n * b
  | 0, _ => by rw [sm]; omega
  | n + 1, h => by
    have h1 := sm_b (n := n) (fun i hi => h i (by omega))
    have h2 := h n (by omega)
    rw [sm, show ((n + 1 : Nat) : Int) * b = n * b + b by rw [Int.natCast_add, Int.add_mul]; omega]
    omega
theorem dG_b (hb : bk_ok β) (hk : pk β ≤ 18) (a : Nat) : -54000 ≤ dG β a ∧ dG β a ≤ 54000 := by
  have h := sm_b (n := pk β) (b := 3000) (f := fun i => dW β i * (dR β i * dD β i a)) (fun i _ => by
    have w := dW_b hb i
    have r := dR_b hb i
    have d := dD_b (β := β) i a
    have q := i_mul_b (x := 1000) (y := 1) (by omega) r.2 (by omega) d.2
    exact i_mul_b (x := 3) (y := 1000) (by omega) w.2 (by omega) (by omega))
  unfold dG dGk
  omega
theorem xx_b (hb : bk_ok β) (hk : pk β ≤ 18) {a : Nat} (ha : a < um β) : -811748818944000 ≤ xx β a ∧ xx β a ≤ 811748818944000 := by
  have u := (um_le hb).1
  have h := sm_b (n := um β) (b := 2147483648 * 54000) (f := fun b => dX β a b * dG β b) (fun b hb2 => by
    have x := dJ_r hb hk (Nat.le_refl _) ha hb2
    have g := dG_b hb hk b
    unfold dX
    exact i_mul_b (x := 2147483648) (y := 54000) (by omega) x.2 g.1 g.2)
  unfold xx
  omega
theorem tp_fi {x : Nat} (h : pt β x = x) : tp β x = 0 := dl_fi h (fun a => xx β a)
theorem tp_un {x : Nat} (hx : x < bk_n β) (h : pt β x ≠ x) : tp β x = xx β (ui β x) := dl_un hx h (fun a => xx β a)
theorem tp_b (hb : bk_ok β) (hk : pk β ≤ 18) {x : Nat} (hx : x < bk_n β) : -811748818944000 ≤ tp β x ∧ tp β x ≤ 811748818944000 := by
  by_cases c : pt β x = x
  · rw [tp_fi c]
    omega
  · rw [tp_un hx c]
    exact xx_b hb hk (ui_ok hx c).1
theorem tp_d (i : Nat) : tp β (pF β i).2.2 - tp β (pF β i).2.1 = sm (um β) (fun a => xx β a * dD β i a) := by
  unfold tp
  rw [← sm_sub]
  exact sm_congr (fun a _ => by unfold dD; rw [Int.mul_sub])
/-- the equations hold -/
theorem dA_xx (hb : bk_ok β) {a : Nat} (ha : a < um β) : sm (um β) (fun b => dA β a b * xx β b) = bt β * dG β a := by
  have I := (dJ_IB hb (Nat.le_refl (um β))).1.2.2
  have e : ∀ j, j < um β → sm (um β) (fun b => dA β a b * dX β b j) = bt β * un j a := fun j hj => by
    have q := I (um β + j) a ha
    rw [show gj_V (um β) (dA β) (um β + j) a = un j a by
      unfold gj_V
      rw [if_neg (by omega), show um β + j - um β = j by omega]] at q
    unfold bt
    rw [q]
    refine sm_congr (fun s hs => ?_)
    unfold gj_T gj_V
    rw [if_pos hs, if_pos hs, Int.mul_comm]
    rfl
  have e2 : sm (um β) (fun b => dA β a b * xx β b) = sm (um β) (fun j => dG β j * sm (um β) (fun b => dA β a b * dX β b j)) := by
    rw [sm_congr (g := fun b => sm (um β) (fun j => dG β j * (dA β a b * dX β b j))) (fun b _ => ?_), sm_comm]
    · exact sm_congr (fun j _ => by rw [sm_mul])
    · unfold xx
      rw [← sm_mul]
      refine sm_congr (fun j _ => ?_)
      generalize dA β a b = p
      generalize dX β b j = q
      generalize dG β j = r
      grind
  rw [e2, sm_congr (g := fun j => dG β j * (bt β * un j a)) (fun j hj => by rw [e j hj]), sm_one (k := a) ha (fun j _ hne => ?_)]
  · unfold un
    rw [if_pos rfl]
    generalize bt β = p
    generalize dG β a = q
    grind
  · unfold un
    rw [if_neg (fun z => hne z.symm)]
    simp
theorem dG_x (y : Nat → Int) : sm (um β) (fun a => y a * dG β a) = sm (pk β) (fun i => dW β i * (dR β i * sm (um β) (fun a => y a * dD β i a))) := by
  rw [sm_congr (g := fun a => sm (pk β) (fun i => dW β i * (dR β i * (y a * dD β i a)))) (fun a _ => ?_), sm_comm]
  · exact sm_congr (fun i _ => by rw [sm_mul, sm_mul])
  · unfold dG dGk
    rw [← sm_mul]
    refine sm_congr (fun i _ => ?_)
    generalize dW β i = w
    generalize dR β i = r
    generalize dD β i a = d
    generalize y a = z
    grind
theorem er_sum : er β = sm (pk β) (fun i => dW β i * (dR β i * (dR β i * bt β - (tp β (pF β i).2.2 - tp β (pF β i).2.1)))) := by
  unfold er sq
  rw [dG_x, ← sm_mul, ← sm_sub]
  refine sm_congr (fun i _ => ?_)
  rw [tp_d]
  generalize dW β i = w
  generalize dR β i = r
  generalize sm (um β) (fun a => xx β a * dD β i a) = d
  generalize bt β = p
  grind
theorem sq_nn (a : Int) : 0 ≤ a * a := by
  rcases Int.le_total 0 a with z | z
  · exact Int.mul_nonneg z z
  · exact int_mul_np z z
theorem sq_b (hb : bk_ok β) (hk : pk β ≤ 18) : 0 ≤ sq β ∧ sq β ≤ 54000000 := by
  have h := sm_b (n := pk β) (b := 3000000) (f := fun i => dW β i * (dR β i * dR β i)) (fun i _ => by
    have w := dW_b hb i
    have r := dR_b hb i
    have q := i_mul_b (x := 1000) (y := 1000) (by omega) r.2 (by omega) r.2
    exact i_mul_b (x := 3) (y := 1000000) (by omega) w.2 (by omega) (by omega))
  refine ⟨sm_nn (fun i _ => Int.mul_nonneg (by have := dW_b hb i; omega) (sq_nn _)), ?_⟩
  unfold sq
  omega
theorem er_b (hb : bk_ok β) (hk : pk β ≤ 18) : 0 ≤ er β ∧ er β ≤ 14495514624000000 := by
  have hp : 0 < bt β ∧ bt β ≤ 268435456 := dJ_p hb hk (Nat.le_refl _)
  have en : bt β * sm (um β) (fun a => xx β a * dG β a) = sm (pk β) (fun i => dW β i * (sm (um β) (fun a => xx β a * dD β i a) * sm (um β) (fun a => xx β a * dD β i a))) := by
    rw [← dA_en, ← sm_mul]
    refine sm_congr (fun a ha => ?_)
    rw [dA_xx hb ha]
    generalize bt β = p
    generalize dG β a = q
    generalize xx β a = r
    grind
  have x0 : 0 ≤ sm (um β) (fun a => xx β a * dG β a) := int_div_nn hp.1 en (sm_nn (fun i _ => Int.mul_nonneg (by have := dW_b hb i; omega) (sq_nn _)))
  have key : bt β * er β = sm (pk β) (fun i => dW β i * ((bt β * dR β i - sm (um β) (fun a => xx β a * dD β i a)) * (bt β * dR β i - sm (um β) (fun a => xx β a * dD β i a)))) := by
    have e1 : bt β * er β = bt β * (bt β * sq β) - 2 * (bt β * sm (um β) (fun a => xx β a * dG β a)) + bt β * sm (um β) (fun a => xx β a * dG β a) := by
      unfold er
      generalize bt β = p
      generalize sq β = q
      generalize sm (um β) (fun a => xx β a * dG β a) = r
      grind
    rw [e1, en]
    have e2 : bt β * sm (um β) (fun a => xx β a * dG β a) = sm (pk β) (fun i => bt β * (dW β i * (dR β i * sm (um β) (fun a => xx β a * dD β i a)))) := by
      rw [dG_x, ← sm_mul]
    rw [← en, e2, ← sm_mul, ← e2, en]
    unfold sq
    rw [← sm_mul, ← sm_mul, ← sm_sub, ← sm_add]
    refine sm_congr (fun i _ => ?_)
    generalize dW β i = w
    generalize dR β i = r
    generalize sm (um β) (fun a => xx β a * dD β i a) = d
    generalize bt β = p
    grind
  have e0 : 0 ≤ er β := int_div_nn hp.1 key (sm_nn (fun i _ => Int.mul_nonneg (by have := dW_b hb i; omega) (sq_nn _)))
  have s := sq_b hb hk
  have m : bt β * sq β ≤ 268435456 * 54000000 := Int.mul_le_mul hp.2 s.2 s.1 (by omega)
  refine ⟨e0, ?_⟩
  unfold er
  omega
end MAT
