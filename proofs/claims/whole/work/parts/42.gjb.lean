/-! Signs, sums and bounds along the elimination. -/
theorem int_div_nn {a b p : Int} (hp : 0 < p) (h : p * a = b) (hb : 0 ≤ b) : 0 ≤ a := by
  rcases Int.lt_or_le a 0 with q | q
  · have := Int.mul_neg_of_pos_of_neg hp q
    omega
  · exact q
theorem int_div_np {a b p : Int} (hp : 0 < p) (h : p * a = b) (hb : b ≤ 0) : a ≤ 0 := by
  have := int_div_nn (a := -a) (b := -b) hp (by rw [Int.mul_neg, h]) (by omega)
  omega
theorem int_mul_np {a b : Int} (ha : a ≤ 0) (hb : b ≤ 0) : 0 ≤ a * b := by
  have := Int.mul_nonneg (a := -a) (b := -b) (by omega) (by omega)
  rw [Int.neg_mul_neg] at this
  exact this
theorem int_mul_pn {a b : Int} (ha : 0 ≤ a) (hb : b ≤ 0) : a * b ≤ 0 := by
  have := Int.mul_nonneg (a := a) (b := -b) ha (by omega)
  rw [Int.mul_neg] at this
  omega
theorem gj_Bs {m k : Nat} {A c : Nat → Nat → Int} {p : Int} (hk : k < m) (M : gj_M m A) (I : gj_I m (gj_V m A) k c p) (B : gj_B m A k c p) : gj_B m A (k + 1) (gj_st k c p) (c k k) := by
  have hp' := gj_pos hk M I B.1
  obtain ⟨hp, b1, b2, b3, b4, b5⟩ := B
  have hp0 : p ≠ 0 := by omega
  have ex : ∀ i q, i < m → i ≠ k → p * gj_st k c p i q = c k k * c i q - c i k * c k q := fun i q hi hne => gj_ex hk hp0 I hi hne
  have rowk : ∀ q, gj_st k c p k q = c k q := fun q => by
    unfold gj_st
    rw [if_pos rfl]
  refine ⟨hp', fun i j hi hj hkj hne => ?_, fun i j hi hj => ?_, fun i hi => ?_, fun i j hi hj => ?_, fun i hi hki => ?_⟩
  · by_cases e : i = k
    · subst e
      rw [rowk]
      exact b1 i j hi hj (by omega) hne
    · refine int_div_np hp (ex i j hi e) ?_
      have q1 := int_mul_pn (Int.le_of_lt hp') (b1 i j hi hj (by omega) hne)
      have q2 := int_mul_np (b1 i k hi hk (Nat.le_refl k) e) (b1 k j hk hj (by omega) (by omega))
      omega
  · by_cases e : i = k
    · subst e
      rw [rowk]
      by_cases e2 : i = j
      · subst e2
        rw [if_pos rfl]
      · rw [if_neg e2, b2 i j hi (by omega), if_neg e2]
    · have q := ex i j hi e
      by_cases e2 : j = k
      · subst e2
        rw [if_neg e]
        have z : p * gj_st j c p i j = 0 := by
          rw [q]
          generalize c j j = a
          generalize c i j = b
          grind
        exact (Int.mul_eq_zero.mp z).resolve_left hp0
      · have z2 := b2 k j hk (by omega)
        rw [if_neg (fun w => e2 w.symm)] at z2
        rw [b2 i j hi (by omega), z2] at q
        by_cases e3 : i = j
        · rw [if_pos e3] at q ⊢
          refine Int.eq_of_mul_eq_mul_left hp0 ?_
          rw [q]
          generalize c k k = a
          generalize c i k = b
          grind
        · rw [if_neg e3] at q ⊢
          have z : p * gj_st k c p i j = 0 := by
            rw [q]
            omega
          exact (Int.mul_eq_zero.mp z).resolve_left hp0
  · by_cases e : i = k
    · subst e
      rw [sm_congr (g := fun j => c i j) (fun j _ => rowk j)]
      exact b3 i hi
    · refine int_div_nn hp (b := c k k * sm m (fun j => c i j) - c i k * sm m (fun j => c k j)) ?_ ?_
      · rw [← sm_mul, ← sm_mul, ← sm_mul, ← sm_sub]
        exact sm_congr (fun j _ => ex i j hi e)
      · have q1 := Int.mul_nonneg (Int.le_of_lt hp') (b3 i hi)
        have q2 := int_mul_pn (b3 k hk) (b1 i k hi hk (Nat.le_refl k) e)
        rw [Int.mul_comm] at q2
        omega
  · by_cases e : i = k
    · subst e
      rw [rowk]
      exact b4 i j hi hj
    · refine int_div_nn hp (ex i (m + j) hi e) ?_
      have q1 := Int.mul_nonneg (Int.le_of_lt hp') (b4 i j hi hj)
      have q2 := int_mul_pn (b4 k j hk hj) (b1 i k hi hk (Nat.le_refl k) e)
      rw [Int.mul_comm] at q2
      omega
  · have hne : i ≠ k := by omega
    have q := ex i i hi hne
    have q2 := int_mul_np (b1 i k hi hk (Nat.le_refl k) hne) (b1 k i hk hi (by omega) (by omega))
    have q3 := Int.mul_le_mul_of_nonneg_left (b5 i hi (by omega)) (Int.le_of_lt hp')
    have q4 : p * gj_st k c p i i ≤ p * (c k k * A i i) := by
      rw [q]
      have : c k k * (p * A i i) = p * (c k k * A i i) := by
        generalize c k k = a
        generalize A i i = b
        grind
      omega
    exact Int.le_of_mul_le_mul_left q4 hp
theorem gj_all {m : Nat} {A : Nat → Nat → Int} (M : gj_M m A) : ∀ k, k ≤ m → gj_I m (gj_V m A) k (gj (gj_V m A) k).1 (gj (gj_V m A) k).2 ∧ gj_B m A k (gj (gj_V m A) k).1 (gj (gj_V m A) k).2
  | 0, _ => ⟨gj_I0 m _, gj_B0 M⟩
  | k + 1, h => by
    obtain ⟨I, B⟩ := gj_all M k (by omega)
    exact ⟨gj_Is (by omega) (by have := B.1; omega) I, gj_Bs (by omega) M I B⟩
/-- a product of diagonal entries, each at least 1 -/
def gj_P (A : Nat → Nat → Int) : Nat → Int
  | 0 => 1
  | k + 1 => gj_P A k * max 1 (A k k)
theorem gj_P1 (A : Nat → Nat → Int) : ∀ k, 1 ≤ gj_P A k
  | 0 => Int.le_refl 1
  | k + 1 => by
    have h := gj_P1 A k
    have h2 : 1 ≤ max 1 (A k k) := Int.le_max_left _ _
    have := Int.mul_le_mul h h2 (by omega) (by omega)
    rw [gj_P]
    omega
theorem gj_Ps (A : Nat → Nat → Int) (k : Nat) : gj_P A k ≤ gj_P A (k + 1) := by
  have h := gj_P1 A k
  have h2 : 1 ≤ max 1 (A k k) := Int.le_max_left _ _
  have := Int.mul_le_mul_of_nonneg_left h2 (show 0 ≤ gj_P A k by omega)
  rw [gj_P]
  omega
theorem gj_Pm (A : Nat → Nat → Int) (k : Nat) : ∀ d, gj_P A k ≤ gj_P A (k + d)
  | 0 => Int.le_refl _
  | d + 1 => Int.le_trans (gj_Pm A k d) (gj_Ps A (k + d))
theorem gj_pP {m : Nat} {A : Nat → Nat → Int} (M : gj_M m A) : ∀ k, k ≤ m → (gj (gj_V m A) k).2 ≤ gj_P A k
  | 0, _ => Int.le_refl 1
  | k + 1, h => by
    have ih := gj_pP M k (by omega)
    obtain ⟨I, B⟩ := gj_all M k (by omega)
    have h1 := B.2.2.2.2.2 k (by omega) (Nat.le_refl k)
    have h2 : A k k ≤ max 1 (A k k) := Int.le_max_right _ _
    have h3 : (1 : Int) ≤ max 1 (A k k) := Int.le_max_left _ _
    have h4 := Int.mul_le_mul_of_nonneg_left h2 (Int.le_of_lt B.1)
    have h5 := Int.mul_le_mul_of_nonneg_right ih (show 0 ≤ max 1 (A k k) by omega)
    show (gj (gj_V m A) k).1 k k ≤ gj_P A k * max 1 (A k k)
    omega
/-- cells of the left half: no more than the divisor times the entry, or the divisor -/
theorem gj_left {m k : Nat} {A c : Nat → Nat → Int} {p : Int} (B : gj_B m A k c p) {i j : Nat} (hi : i < m) (hj : j < m) : - (p * max 1 (A i i)) ≤ c i j ∧ c i j ≤ p * max 1 (A i i) := by
  obtain ⟨hp, b1, b2, b3, b4, b5⟩ := B
  have h1 : (1 : Int) ≤ max 1 (A i i) := Int.le_max_left _ _
  have hA : A i i ≤ max 1 (A i i) := Int.le_max_right _ _
  have h2 := Int.mul_le_mul_of_nonneg_left h1 (Int.le_of_lt hp)
  have h3 := Int.mul_le_mul_of_nonneg_left hA (Int.le_of_lt hp)
  have hd : c i i ≤ p * max 1 (A i i) := by
    by_cases e : i < k
    · rw [b2 i i hi e, if_pos rfl]
      omega
    · have := b5 i hi (by omega)
      omega
  -- the row's sum without the diagonal
  have hrow : ∀ q, q < m → q ≠ i → c i q ≤ 0 := fun q hq hne => by
    by_cases e : q < k
    · rw [b2 i q hi e, if_neg (fun z => hne z.symm)]
      omega
    · exact b1 i q hi hq (by omega) (fun z => hne z.symm)
  have hdn : ∀ q, q < m → q ≠ i → - c i q ≤ c i i := fun q hq hne => by
    have s := b3 i hi
    have z := sm_ge1 (f := fun t => if t = i then 0 else - c i t) (k := q) (n := m) hq (fun t ht => by
      show 0 ≤ (if t = i then 0 else - c i t)
      by_cases e : t = i
      · rw [if_pos e]
        omega
      · rw [if_neg e]
        have := hrow t ht e
        omega)
    have e2 : sm m (fun t => if t = i then 0 else - c i t) = c i i - sm m (fun j => c i j) := by
      have e3 : sm m (fun t => if t = i then c i i else 0) = c i i := by
        rw [sm_one (k := i) hi (fun s _ hne => if_neg hne), if_pos rfl]
      rw [← e3, ← sm_sub]
      refine sm_congr (fun t ht => ?_)
      by_cases e : t = i
      · subst e
        rw [if_pos rfl, if_pos rfl]
        omega
      · rw [if_neg e, if_neg e]
        omega
    rw [e2] at z
    have z : (if q = i then 0 else - c i q) ≤ c i i - sm m (fun j => c i j) := z
    rw [if_neg hne] at z
    omega
  by_cases e : j = i
  · subst e
    refine ⟨?_, hd⟩
    have s := b3 j hj
    have z : sm m (fun q => c j q) ≤ sm m (fun q => if q = j then c j j else 0) := sm_le (fun q hq => by
      by_cases e : q = j
      · subst e
        rw [if_pos rfl]
        omega
      · rw [if_neg e]
        exact hrow q hq e)
    rw [sm_one (k := j) hj (fun s _ hne => if_neg hne), if_pos rfl] at z
    omega
  · have := hdn j hj e
    have := hrow j hj e
    omega
/-- rows that are not pivots yet: the right half is at most the divisor -/
theorem gj_right_lo {m k : Nat} {A c : Nat → Nat → Int} {p : Int} (hkm : k ≤ m) (M : gj_M m A) (I : gj_I m (gj_V m A) k c p) (B : gj_B m A k c p) {i j : Nat} (hi : i < m) (hki : k ≤ i) (hj : j < m) : c i (m + j) ≤ p := by
  obtain ⟨hp, b1, b2, b3, b4, b5⟩ := B
  have h3 := I.2.2 (m + j)
  -- add up all places of the vector identity
  have e1 : sm m (fun r => p * gj_V m A (m + j) r) = p := by
    rw [sm_one (k := j) hj (fun r hr hne => ?_)]
    · unfold gj_V un
      rw [if_neg (by omega), if_pos (by omega)]
      omega
    · unfold gj_V un
      rw [if_neg (by omega), if_neg (by omega)]
      omega
  have e2 : p = sm m (fun s => c s (m + j) * sm m (fun r => gj_T (gj_V m A) k s r)) := by
    rw [← e1, sm_congr (fun r hr => h3 r hr), sm_comm]
    exact sm_congr (fun s _ => by rw [sm_mul])
  have hs : ∀ s, s < m → 0 ≤ sm m (fun r => gj_T (gj_V m A) k s r) := fun s hs => by
    refine Int.le_trans ?_ (Int.le_of_eq (sm_congr (f := fun r => if s < k then A r s else un s r) (fun r _ => ?_)))
    · by_cases e : s < k
      · rw [sm_congr (g := fun r => A r s) (fun r _ => if_pos e)]
        exact M.2.2.1 s hs
      · refine sm_nn (fun r _ => ?_)
        rw [if_neg e]
        unfold un
        split <;> decide
    · unfold gj_T gj_V
      by_cases e : s < k
      · rw [if_pos e, if_pos e, if_pos (by omega)]
      · rw [if_neg e, if_neg e]
  have hi1 : sm m (fun r => gj_T (gj_V m A) k i r) = 1 := by
    rw [sm_one (k := i) hi (fun r hr hne => ?_)]
    · unfold gj_T un
      rw [if_neg (by omega), if_pos rfl]
    · unfold gj_T un
      rw [if_neg (by omega), if_neg hne]
  have z := sm_ge1 (f := fun s => c s (m + j) * sm m (fun r => gj_T (gj_V m A) k s r)) (k := i) (n := m) hi (fun s h => Int.mul_nonneg (b4 s j h hj) (hs s h))
  rw [← e2] at z
  have z : c i (m + j) * sm m (fun r => gj_T (gj_V m A) k i r) ≤ p := z
  rw [hi1] at z
  omega
/-- the right half: no more than so many products -/
theorem gj_right {m : Nat} {A : Nat → Nat → Int} (M : gj_M m A) : ∀ k, k ≤ m → ∀ i j, i < m → j < m → (gj (gj_V m A) k).1 i (m + j) ≤ (k + 1) * gj_P A k
  | 0, hk, i, j, hi, hj => by
    obtain ⟨I, B⟩ := gj_all M 0 hk
    have h := gj_right_lo hk M I B hi (Nat.zero_le i) hj
    have : (gj (gj_V m A) 0).2 = 1 := rfl
    have : gj_P A 0 = 1 := rfl
    rw [this]
    omega
  | k + 1, hk, i, j, hi, hj => by
    obtain ⟨I, B⟩ := gj_all M k (by omega)
    have ih := gj_right M k (by omega)
    have hP := gj_pP M k (by omega)
    have hP1 := gj_P1 A k
    have hPs := gj_Ps A k
    generalize hc : (gj (gj_V m A) k).1 = c at *
    generalize hq : (gj (gj_V m A) k).2 = p at *
    have hg : (gj (gj_V m A) (k + 1)).1 = gj_st k c p := by rw [gj, hc, hq]
    rw [hg]
    have hp := B.1
    have lo := gj_right_lo (j := j) (i := k) (by omega) M I B (by omega) (Nat.le_refl k) hj
    have hbig : gj_P A k ≤ ((k + 1 : Nat) + 1 : Int) * gj_P A (k + 1) := by
      have : (1 : Int) * gj_P A (k + 1) ≤ ((k + 1 : Nat) + 1 : Int) * gj_P A (k + 1) := Int.mul_le_mul_of_nonneg_right (by omega) (by omega)
      omega
    by_cases e : i = k
    · subst e
      unfold gj_st
      rw [if_pos rfl]
      omega
    · have q := gj_ex (q := m + j) (by omega) (by omega) I hi e
      have h1 := gj_left B hi (show k < m by omega)
      -- the cell in column k of a row: at least - p, or the row is a pivot no more
      have hik : ¬ k < i → - p ≤ c i k := fun hki => by
        have hik : i < k := by omega
        have r2 := B.2.2.1 i i hi hik
        rw [if_pos rfl] at r2
        have s := B.2.2.2.1 i hi
        have z : sm m (fun q => c i q) ≤ sm m (fun q => if q = i then p else if q = k then c i k else 0) := sm_le (fun q hq => by
          by_cases e1 : q = i
          · subst e1
            rw [if_pos rfl, r2]
            omega
          · rw [if_neg e1]
            by_cases e2 : q = k
            · subst e2
              rw [if_pos rfl]
              omega
            · rw [if_neg e2]
              by_cases e3 : q < k
              · rw [B.2.2.1 i q hi e3, if_neg (fun z => e1 z.symm)]
                omega
              · exact B.2.1 i q hi hq (by omega) (fun z => e1 z.symm))
        rw [sm_two (f := fun q => if q = i then p else if q = k then c i k else 0) (k := i) (q := k) hi (by omega) e (fun t _ h1 h2 => by rw [if_neg h1, if_neg h2]), if_pos rfl, if_neg (fun z => e z.symm), if_pos rfl] at z
        omega
      have hneg := B.2.1 i k hi (by omega) (Nat.le_refl k) e
      have hkk := B.2.2.2.2.2 k (by omega) (Nat.le_refl k)
      by_cases hki : k < i
      · -- still ahead: at most the new divisor
        have I' := gj_Is (show k < m by omega) (by omega) I
        have B' := gj_Bs (show k < m by omega) M I B
        have lo' := gj_right_lo (j := j) (i := i) hk M I' B' hi (by omega) hj
        have := gj_pP M (k + 1) hk
        have e4 : (gj (gj_V m A) (k + 1)).2 = c k k := by rw [gj, hc]
        rw [e4] at this
        have : (1 : Int) * gj_P A (k + 1) ≤ ((k + 1 : Nat) + 1 : Int) * gj_P A (k + 1) := Int.mul_le_mul_of_nonneg_right (by omega) (by have := gj_P1 A (k + 1); omega)
        omega
      · have hik := hik hki
        -- p * new ≤ p * (a * old + p)
        have hmax : A k k ≤ max 1 (A k k) := Int.le_max_right _ _
        have hmax1 : (1 : Int) ≤ max 1 (A k k) := Int.le_max_left _ _
        have hPe : gj_P A (k + 1) = gj_P A k * max 1 (A k k) := rfl
        generalize max 1 (A k k) = a at *
        have o := ih i j hi hj
        have o0 := B.2.2.2.2.1 i j hi hj
        have l0 := B.2.2.2.2.1 k j (by omega) hj
        have t1 : c k k * c i (m + j) ≤ p * a * c i (m + j) := Int.mul_le_mul_of_nonneg_right (Int.le_trans hkk (Int.mul_le_mul_of_nonneg_left hmax (by omega))) o0
        have t2 : - (c i k * c k (m + j)) ≤ p * p := by
          rw [← Int.neg_mul]
          exact Int.mul_le_mul (by omega) lo l0 (by omega)
        have t3 : p * gj_st k c p i (m + j) ≤ p * (a * c i (m + j) + p) := by
          rw [q, Int.mul_add, ← Int.mul_assoc]
          omega
        have t4 := Int.le_of_mul_le_mul_left t3 hp
        have t5 : a * c i (m + j) ≤ a * ((k + 1) * gj_P A k) := Int.mul_le_mul_of_nonneg_left o (by omega)
        have t6 : a * ((k + 1) * gj_P A k) = (k + 1) * gj_P A (k + 1) := by
          rw [hPe]
          generalize gj_P A k = x
          grind
        have t7 : ((k + 1 : Nat) + 1 : Int) * gj_P A (k + 1) = (k + 1) * gj_P A (k + 1) + gj_P A (k + 1) := by
          generalize gj_P A (k + 1) = x
          grind
        omega
