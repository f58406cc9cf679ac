/-! The two worlds: the landed object's 156 cells, the reference's 15, as functions of a state. -/
theorem st_i_ne {S : RSt} {k q : Nat} {v : Int32} (h : q ≠ k) : st_i (st_si S k v) q = st_i S q := if_neg h
theorem st_i_eq {S : RSt} {k : Nat} {v : Int32} : st_i (st_si S k v) k = v := if_pos rfl
theorem st_j_ne {S : RSt} {k q : Nat} {v : Int64} (h : q ≠ k) : st_j (st_sj S k v) q = st_j S q := if_neg h
theorem st_j_eq {S : RSt} {k : Nat} {v : Int64} : st_j (st_sj S k v) k = v := if_pos rfl
theorem st_a_ne {S : RSt} {k q i : Nat} {v : Int32} (h : q ≠ k) : st_a (st_sa S k i v) q = st_a S q := if_neg h
theorem st_a_eq {S : RSt} {k i : Nat} {v : Int32} : st_a (st_sa S k i v) k = upd (st_a S k) i v := if_pos rfl
theorem st_g_ne {S : RSt} {k q i : Nat} {v : Int64} (h : q ≠ k) : st_g (st_sg S k i v) q = st_g S q := if_neg h
theorem st_g_eq {S : RSt} {k i : Nat} {v : Int64} : st_g (st_sg S k i v) k = vp_updL (st_g S k) i v := if_pos rfl
theorem st_ac_ne {S : RSt} {a b q sp dp n : Nat} (h : q ≠ b) : st_a (st_cp S a b sp dp n) q = st_a S q := if_neg h
theorem st_ac_eq {S : RSt} {a b sp dp n : Nat} : st_a (st_cp S a b sp dp n) b = va_cpy (st_a S a) (st_a S b) sp dp n := if_pos rfl
theorem st_i_sj {S : RSt} {k : Nat} {v : Int64} : st_i (st_sj S k v) = st_i S := rfl
theorem st_i_sa {S : RSt} {k i : Nat} {v : Int32} : st_i (st_sa S k i v) = st_i S := rfl
theorem st_i_sg {S : RSt} {k i : Nat} {v : Int64} : st_i (st_sg S k i v) = st_i S := rfl
theorem st_i_cp {S : RSt} {a b sp dp n : Nat} : st_i (st_cp S a b sp dp n) = st_i S := rfl
theorem st_j_si {S : RSt} {k : Nat} {v : Int32} : st_j (st_si S k v) = st_j S := rfl
theorem st_j_sa {S : RSt} {k i : Nat} {v : Int32} : st_j (st_sa S k i v) = st_j S := rfl
theorem st_j_sg {S : RSt} {k i : Nat} {v : Int64} : st_j (st_sg S k i v) = st_j S := rfl
theorem st_j_cp {S : RSt} {a b sp dp n : Nat} : st_j (st_cp S a b sp dp n) = st_j S := rfl
theorem st_a_si {S : RSt} {k : Nat} {v : Int32} : st_a (st_si S k v) = st_a S := rfl
theorem st_a_sj {S : RSt} {k : Nat} {v : Int64} : st_a (st_sj S k v) = st_a S := rfl
theorem st_a_sg {S : RSt} {k i : Nat} {v : Int64} : st_a (st_sg S k i v) = st_a S := rfl
theorem st_g_si {S : RSt} {k : Nat} {v : Int32} : st_g (st_si S k v) = st_g S := rfl
theorem st_g_sj {S : RSt} {k : Nat} {v : Int64} : st_g (st_sj S k v) = st_g S := rfl
theorem st_g_sa {S : RSt} {k i : Nat} {v : Int32} : st_g (st_sa S k i v) = st_g S := rfl
theorem st_g_cp {S : RSt} {a b sp dp n : Nat} : st_g (st_cp S a b sp dp n) = st_g S := rfl

def rw_Bk (ad : Nat → Nat) (S : RSt) (j : Nat) : va_E := .inr (0, [.int (st_i S (3 * j)), .int (st_i S (3 * j + 1)), .int (st_i S (3 * j + 2)), .ref (ad (23 + 2 * j)), .ref (ad (24 + 2 * j))])
def rw_Ft (ad : Nat → Nat) (S : RSt) (j : Nat) : va_E := .inr (1, [.int (st_i S (39 + 2 * j)), .int (st_i S (40 + 2 * j)), .ref (ad (19 + j)), .ref (ad (49 + j)), .ref (ad (135 + j)), .long (st_j S j), .ref (ad (137 + j)), .ref (ad (21 + j))])
def rw_Hs (ad : Nat → Nat) (S : RSt) : va_E := .inr (2, [.int (st_i S 43), .int (st_i S 44), .ref (ad 18)])
def rw_Tp (ad : Nat → Nat) (S : RSt) : va_E := .inr (3, [.int (st_i S 45), .int (st_i S 46), .int (st_i S 47), .int (st_i S 48), .ref (ad 2), .ref (ad 155), .int (st_i S 49), .int (st_i S 50), .int (st_i S 51), .int (st_i S 52), .int (st_i S 53)])
def rw_Mn (ad : Nat → Nat) (S : RSt) : va_E := .inr (4, [.ref (ad 16), .ref (ad 0), .ref (ad 1), .ref (ad 13), .ref (ad 14), .int (st_i S 54), .ref (ad 15)])
def rw_nA (a : Nat) : Nat := if a < 26 then (if a % 2 = 0 then 8 else 48) else if a < 28 then 8 else 5
def rw_nG (a : Nat) : Nat := if a < 4 then 8 else 16
def rw_e (cy : Nat → ClassId) (ad : Nat → Nat) (S : RSt) (k : Nat) : va_E :=
  if k < 13 then rw_Bk ad S k else
  if k < 15 then rw_Ft ad S (k - 13) else
  if k < 16 then rw_Hs ad S else
  if k < 17 then rw_Tp ad S else
  if k < 18 then rw_Mn ad S else
  if k < 19 then .inl (cy 3, 10, .inr (.inr (.inr (.inr (fun i => some (ad (3 + i))))))) else
  if k < 21 then .inl (cy 4, 42, .inr (.inr (.inr (.inr (fun i => some (ad (51 + 42 * (k - 19) + i))))))) else
  if k < 23 then .inl (cy 5, 8, .inr (.inr (.inr (.inr (fun i => some (ad (139 + 8 * (k - 21) + i))))))) else
  if k < 135 then .inl (cy 0, rw_nA (k - 23), .inl (st_a S (k - 23))) else
  if k < 155 then .inl (cy 1, rw_nG (k - 135), .inr (.inl (st_g S (k - 135)))) else
  .inl (cy 2, 540, .inl (st_a S 112))
def rw_w (cy : Nat → ClassId) (ad : Nat → Nat) (S : RSt) : va_W := (List.range 156).map (fun k => (ad k, rw_e cy ad S k))
abbrev rw_t (cy : Nat → ClassId) : List (ClassId × FieldType) := [(cy 0, .int), (cy 1, .long), (cy 2, .byte), (cy 3, .object RX0), (cy 4, .array .int), (cy 5, .array .long)]
section RW
variable {cy : Nat → ClassId} {ad : Nat → Nat} {S S' : RSt} {k j i : Nat}
theorem rw_at (h : k < 156) : (rw_w cy ad S)[k]? = some (ad k, rw_e cy ad S k) := by simp [rw_w, h]
theorem rw_set {x : va_E} (h1 : rw_e cy ad S' k = x) (h2 : ∀ q, q ≠ k → q < 156 → rw_e cy ad S' q = rw_e cy ad S q) : (rw_w cy ad S).set k (ad k, x) = rw_w cy ad S' := by
  apply List.ext_getElem?
  intro q
  rw [List.getElem?_set]
  by_cases hq : q < 156
  · by_cases e : k = q
    · subst e
      rw [if_pos rfl, rw_at hq, h1]
      simp [rw_w, hq]
    · rw [if_neg e, rw_at hq, rw_at hq, h2 q (fun z => e z.symm) hq]
  · have e1 : (rw_w cy ad S)[q]? = none := by simp [rw_w]; omega
    have e2 : (rw_w cy ad S')[q]? = none := by simp [rw_w]; omega
    by_cases e : k = q
    · subst e
      rw [if_pos rfl, e2, if_neg (by simp [rw_w]; omega)]
    · rw [if_neg e, e1, e2]
theorem rw_Book (hj : j < 13) : (rw_w cy ad S)[j]? = some (ad j, rw_Bk ad S j) := by
  rw [rw_at (by omega), rw_e, if_pos hj]
theorem rw_Fit (hj : j < 2) : (rw_w cy ad S)[13 + j]? = some (ad (13 + j), rw_Ft ad S j) := by
  rw [rw_at (by omega), rw_e, if_neg (by omega), if_pos (by omega), show 13 + j - 13 = j by omega]
theorem rw_Hist : (rw_w cy ad S)[15]? = some (ad 15, rw_Hs ad S) := rw_at (by omega)
theorem rw_Tape : (rw_w cy ad S)[16]? = some (ad 16, rw_Tp ad S) := rw_at (by omega)
theorem rw_Main : (rw_w cy ad S)[17]? = some (ad 17, rw_Mn ad S) := rw_at (by omega)
theorem rw_kept : (rw_w cy ad S)[18]? = some (ad 18, .inl (cy 3, 10, .inr (.inr (.inr (.inr (fun i => some (ad (3 + i)))))))) := rw_at (by omega)
theorem rw_pairRows (hj : j < 2) : (rw_w cy ad S)[19 + j]? = some (ad (19 + j), .inl (cy 4, 42, .inr (.inr (.inr (.inr (fun i => some (ad (51 + 42 * j + i)))))))) := by
  rw [rw_at (by omega), rw_e, if_neg (by omega), if_neg (by omega), if_neg (by omega), if_neg (by omega), if_neg (by omega), if_neg (by omega), if_pos (by omega), show 19 + j - 19 = j by omega]
theorem rw_rows (hj : j < 2) : (rw_w cy ad S)[21 + j]? = some (ad (21 + j), .inl (cy 5, 8, .inr (.inr (.inr (.inr (fun i => some (ad (139 + 8 * j + i)))))))) := by
  rw [rw_at (by omega), rw_e, if_neg (by omega), if_neg (by omega), if_neg (by omega), if_neg (by omega), if_neg (by omega), if_neg (by omega), if_neg (by omega), if_pos (by omega), show 21 + j - 21 = j by omega]
theorem rw_intA {a : Nat} (ha : a < 112) : (rw_w cy ad S)[23 + a]? = some (ad (23 + a), .inl (cy 0, rw_nA a, .inl (st_a S a))) := by
  rw [rw_at (by omega), rw_e, if_neg (by omega), if_neg (by omega), if_neg (by omega), if_neg (by omega), if_neg (by omega), if_neg (by omega), if_neg (by omega), if_neg (by omega), if_pos (by omega), show 23 + a - 23 = a by omega]
theorem rw_lngA {a : Nat} (ha : a < 20) : (rw_w cy ad S)[135 + a]? = some (ad (135 + a), .inl (cy 1, rw_nG a, .inr (.inl (st_g S a)))) := by
  rw [rw_at (by omega), rw_e, if_neg (by omega), if_neg (by omega), if_neg (by omega), if_neg (by omega), if_neg (by omega), if_neg (by omega), if_neg (by omega), if_neg (by omega), if_neg (by omega), if_pos (by omega), show 135 + a - 135 = a by omega]
theorem rw_bytes : (rw_w cy ad S)[155]? = some (ad 155, .inl (cy 2, 540, .inl (st_a S 112))) := rw_at (by omega)
theorem rw_weights (hj : j < 13) : (rw_w cy ad S)[23 + 2 * j]? = some (ad (23 + 2 * j), .inl (cy 0, 8, .inl (st_a S (2 * j)))) := by
  rw [rw_intA (by omega), show rw_nA (2 * j) = 8 by unfold rw_nA; rw [if_pos (by omega), if_pos (by omega)]]
theorem rw_levels (hj : j < 13) : (rw_w cy ad S)[24 + 2 * j]? = some (ad (24 + 2 * j), .inl (cy 0, 48, .inl (st_a S (2 * j + 1)))) := by
  rw [show 24 + 2 * j = 23 + (2 * j + 1) by omega, rw_intA (by omega), show rw_nA (2 * j + 1) = 48 by unfold rw_nA; rw [if_pos (by omega), if_neg (by omega)]]
theorem rw_parts (hj : j < 2) : (rw_w cy ad S)[49 + j]? = some (ad (49 + j), .inl (cy 0, 8, .inl (st_a S (26 + j)))) := by
  rw [show 49 + j = 23 + (26 + j) by omega, rw_intA (by omega), show rw_nA (26 + j) = 8 by unfold rw_nA; rw [if_neg (by omega), if_pos (by omega)]]
theorem rw_prow (hj : j < 2) (hi : i < 42) : (rw_w cy ad S)[51 + 42 * j + i]? = some (ad (51 + 42 * j + i), .inl (cy 0, 5, .inl (st_a S (28 + 42 * j + i)))) := by
  rw [show 51 + 42 * j + i = 23 + (28 + 42 * j + i) by omega, rw_intA (by omega), show rw_nA (28 + 42 * j + i) = 5 by unfold rw_nA; rw [if_neg (by omega), if_neg (by omega)]]
theorem rw_tops (hj : j < 2) : (rw_w cy ad S)[135 + j]? = some (ad (135 + j), .inl (cy 1, 8, .inr (.inl (st_g S j)))) := by
  rw [rw_lngA (by omega), show rw_nG j = 8 by unfold rw_nG; rw [if_pos (by omega)]]
theorem rw_pulls (hj : j < 2) : (rw_w cy ad S)[137 + j]? = some (ad (137 + j), .inl (cy 1, 8, .inr (.inl (st_g S (2 + j))))) := by
  rw [show 137 + j = 135 + (2 + j) by omega, rw_lngA (by omega), show rw_nG (2 + j) = 8 by unfold rw_nG; rw [if_pos (by omega)]]
theorem rw_row (hj : j < 2) (hi : i < 8) : (rw_w cy ad S)[139 + 8 * j + i]? = some (ad (139 + 8 * j + i), .inl (cy 1, 16, .inr (.inl (st_g S (4 + 8 * j + i))))) := by
  rw [show 139 + 8 * j + i = 135 + (4 + 8 * j + i) by omega, rw_lngA (by omega), show rw_nG (4 + 8 * j + i) = 16 by unfold rw_nG; rw [if_neg (by omega)]]
theorem rw_e_si {v : Int32} {q : Nat} (h : ∀ j, j < 13 → j = q → (3 * j ≠ k ∧ 3 * j + 1 ≠ k ∧ 3 * j + 2 ≠ k)) (h2 : ∀ j, j < 2 → 13 + j = q → (39 + 2 * j ≠ k ∧ 40 + 2 * j ≠ k)) (h3 : q = 15 → ¬ (k = 43 ∨ k = 44)) (h4 : q = 16 → ¬ (45 ≤ k ∧ k < 54)) (h5 : q = 17 → k ≠ 54) : rw_e cy ad (st_si S k v) q = rw_e cy ad S q := by
  unfold rw_e
  by_cases c1 : q < 13
  · have := h q c1 rfl
    rw [if_pos c1, if_pos c1, rw_Bk, rw_Bk, st_i_ne this.1, st_i_ne this.2.1, st_i_ne this.2.2]
  · rw [if_neg c1, if_neg c1]
    by_cases c2 : q < 15
    · have := h2 (q - 13) (by omega) (by omega)
      rw [if_pos c2, if_pos c2, rw_Ft, rw_Ft, st_i_ne this.1, st_i_ne this.2]
      rfl
    · rw [if_neg c2, if_neg c2]
      by_cases c3 : q < 16
      · have := h3 (by omega)
        rw [if_pos c3, if_pos c3, rw_Hs, rw_Hs, st_i_ne (by omega), st_i_ne (by omega)]
      · rw [if_neg c3, if_neg c3]
        by_cases c4 : q < 17
        · have := h4 (by omega)
          rw [if_pos c4, if_pos c4, rw_Tp, rw_Tp, st_i_ne (by omega), st_i_ne (by omega), st_i_ne (by omega), st_i_ne (by omega), st_i_ne (by omega), st_i_ne (by omega), st_i_ne (by omega), st_i_ne (by omega), st_i_ne (by omega)]
        · rw [if_neg c4, if_neg c4]
          by_cases c5 : q < 18
          · have := h5 (by omega)
            rw [if_pos c5, if_pos c5, rw_Mn, rw_Mn, st_i_ne (fun z => this z.symm)]
          · rw [if_neg c5, if_neg c5]
            rfl
theorem rw_e_sa {S2 : RSt} {q a : Nat} (e1 : st_i S2 = st_i S) (e2 : st_j S2 = st_j S) (e3 : st_g S2 = st_g S) (e4 : ∀ b, b ≠ a → st_a S2 b = st_a S b) (h : a < 112 → q ≠ 23 + a) (h2 : a = 112 → q ≠ 155) (ha : a ≤ 112) (hq : q < 156) : rw_e cy ad S2 q = rw_e cy ad S q := by
  unfold rw_e rw_Bk rw_Ft rw_Hs rw_Tp rw_Mn
  rw [e1, e2, e3]
  by_cases c1 : q < 23
  · by_cases c2 : q < 13
    · rw [if_pos c2, if_pos c2]
    · rw [if_neg c2, if_neg c2]
      by_cases c3 : q < 15
      · rw [if_pos c3, if_pos c3]
      · rw [if_neg c3, if_neg c3]
        by_cases c4 : q < 16
        · rw [if_pos c4, if_pos c4]
        · rw [if_neg c4, if_neg c4]
          by_cases c5 : q < 17
          · rw [if_pos c5, if_pos c5]
          · rw [if_neg c5, if_neg c5]
            by_cases c6 : q < 18
            · rw [if_pos c6, if_pos c6]
            · rw [if_neg c6, if_neg c6]
              by_cases c7 : q < 19
              · rw [if_pos c7, if_pos c7]
              · rw [if_neg c7, if_neg c7]
                by_cases c8 : q < 21
                · rw [if_pos c8, if_pos c8]
                · rw [if_neg c8, if_neg c8, if_pos c1, if_pos c1]
  · rw [if_neg (by omega), if_neg (by omega), if_neg (by omega), if_neg (by omega), if_neg (by omega), if_neg (by omega), if_neg (by omega), if_neg (by omega)]
    rw [if_neg (show ¬ q < 13 by omega), if_neg (show ¬ q < 15 by omega), if_neg (show ¬ q < 16 by omega), if_neg (show ¬ q < 17 by omega), if_neg (show ¬ q < 18 by omega), if_neg (show ¬ q < 19 by omega), if_neg (show ¬ q < 21 by omega), if_neg c1]
    by_cases c2 : q < 135
    · rw [if_pos c2, if_pos c2, e4 (q - 23) (by omega)]
    · rw [if_neg c2, if_neg c2]
      by_cases c3 : q < 155
      · rw [if_pos c3, if_pos c3]
      · rw [if_neg c3, if_neg c3, e4 112 (by omega)]
theorem rw_e_sg {S2 : RSt} {q a : Nat} (e1 : st_i S2 = st_i S) (e2 : st_j S2 = st_j S) (e3 : st_a S2 = st_a S) (e4 : ∀ b, b ≠ a → st_g S2 b = st_g S b) (h : q ≠ 135 + a) : rw_e cy ad S2 q = rw_e cy ad S q := by
  unfold rw_e rw_Bk rw_Ft rw_Hs rw_Tp rw_Mn
  rw [e1, e2, e3]
  by_cases c1 : q < 135
  · by_cases c2 : q < 13
    · rw [if_pos c2, if_pos c2]
    · rw [if_neg c2, if_neg c2]
      by_cases c3 : q < 15
      · rw [if_pos c3, if_pos c3]
      · rw [if_neg c3, if_neg c3]
        by_cases c4 : q < 16
        · rw [if_pos c4, if_pos c4]
        · rw [if_neg c4, if_neg c4]
          by_cases c5 : q < 17
          · rw [if_pos c5, if_pos c5]
          · rw [if_neg c5, if_neg c5]
            by_cases c6 : q < 18
            · rw [if_pos c6, if_pos c6]
            · rw [if_neg c6, if_neg c6]
              by_cases c7 : q < 19
              · rw [if_pos c7, if_pos c7]
              · rw [if_neg c7, if_neg c7]
                by_cases c8 : q < 21
                · rw [if_pos c8, if_pos c8]
                · rw [if_neg c8, if_neg c8]
                  by_cases c9 : q < 23
                  · rw [if_pos c9, if_pos c9]
                  · rw [if_neg c9, if_neg c9, if_pos c1, if_pos c1]
  · rw [if_neg (by omega), if_neg (by omega), if_neg (by omega), if_neg (by omega), if_neg (by omega), if_neg (by omega), if_neg (by omega), if_neg (by omega), if_neg c1]
    rw [if_neg (show ¬ q < 13 by omega), if_neg (show ¬ q < 15 by omega), if_neg (show ¬ q < 16 by omega), if_neg (show ¬ q < 17 by omega), if_neg (show ¬ q < 18 by omega), if_neg (show ¬ q < 19 by omega), if_neg (show ¬ q < 21 by omega), if_neg (show ¬ q < 23 by omega), if_neg c1]
    by_cases c3 : q < 155
    · rw [if_pos c3, if_pos c3, e4 (q - 135) (by omega)]
    · rw [if_neg c3, if_neg c3]
theorem rw_e_sj {v : Int64} {q : Nat} (hk : k < 2) (h : q ≠ 13 + k) : rw_e cy ad (st_sj S k v) q = rw_e cy ad S q := by
  unfold rw_e
  by_cases c1 : q < 13
  · rw [if_pos c1, if_pos c1]
    rfl
  · rw [if_neg c1, if_neg c1]
    by_cases c2 : q < 15
    · rw [if_pos c2, if_pos c2, rw_Ft, rw_Ft, st_j_ne (by omega)]
      rfl
    · rw [if_neg c2, if_neg c2]
      rfl

theorem rw_s_Book_months (hj : j < 13) {v : Int32} : (rw_w cy ad S).set (j) (ad (j), .inr (0, [.int v, .int (st_i S (3 * j + 1)), .int (st_i S (3 * j + 2)), .ref (ad (23 + 2 * j)), .ref (ad (24 + 2 * j))])) = rw_w cy ad (st_si S (3 * j) v) := by
  refine rw_set (S' := st_si S (3 * j) v) (by
    have h := rw_at (cy := cy) (ad := ad) (S := st_si S (3 * j) v) (k := j) (by omega)
    rw [rw_Book hj] at h
    have h := congrArg (fun z => z.map Prod.snd) h
    simp only [Option.map_some] at h
    injection h with h
    rw [← h, rw_Bk, st_i_eq, st_i_ne (by omega), st_i_ne (by omega)]) (fun q hq hq2 => rw_e_si (by omega) (by omega) (by omega) (by omega) (by omega))
theorem rw_s_Book_homes (hj : j < 13) {v : Int32} : (rw_w cy ad S).set (j) (ad (j), .inr (0, [.int (st_i S (3 * j)), .int v, .int (st_i S (3 * j + 2)), .ref (ad (23 + 2 * j)), .ref (ad (24 + 2 * j))])) = rw_w cy ad (st_si S (3 * j + 1) v) := by
  refine rw_set (S' := st_si S (3 * j + 1) v) (by
    have h := rw_at (cy := cy) (ad := ad) (S := st_si S (3 * j + 1) v) (k := j) (by omega)
    rw [rw_Book hj] at h
    have h := congrArg (fun z => z.map Prod.snd) h
    simp only [Option.map_some] at h
    injection h with h
    rw [← h, rw_Bk, st_i_ne (by omega), st_i_eq, st_i_ne (by omega)]) (fun q hq hq2 => rw_e_si (by omega) (by omega) (by omega) (by omega) (by omega))
theorem rw_s_Book_sales (hj : j < 13) {v : Int32} : (rw_w cy ad S).set (j) (ad (j), .inr (0, [.int (st_i S (3 * j)), .int (st_i S (3 * j + 1)), .int v, .ref (ad (23 + 2 * j)), .ref (ad (24 + 2 * j))])) = rw_w cy ad (st_si S (3 * j + 2) v) := by
  refine rw_set (S' := st_si S (3 * j + 2) v) (by
    have h := rw_at (cy := cy) (ad := ad) (S := st_si S (3 * j + 2) v) (k := j) (by omega)
    rw [rw_Book hj] at h
    have h := congrArg (fun z => z.map Prod.snd) h
    simp only [Option.map_some] at h
    injection h with h
    rw [← h, rw_Bk, st_i_ne (by omega), st_i_ne (by omega), st_i_eq]) (fun q hq hq2 => rw_e_si (by omega) (by omega) (by omega) (by omega) (by omega))
theorem rw_s_Fit_months (hj : j < 2) {v : Int32} : (rw_w cy ad S).set (13 + j) (ad (13 + j), .inr (1, [.int v, .int (st_i S (40 + 2 * j)), .ref (ad (19 + j)), .ref (ad (49 + j)), .ref (ad (135 + j)), .long (st_j S j), .ref (ad (137 + j)), .ref (ad (21 + j))])) = rw_w cy ad (st_si S (39 + 2 * j) v) := by
  refine rw_set (S' := st_si S (39 + 2 * j) v) (by
    have h := rw_at (cy := cy) (ad := ad) (S := st_si S (39 + 2 * j) v) (k := 13 + j) (by omega)
    rw [rw_Fit hj] at h
    have h := congrArg (fun z => z.map Prod.snd) h
    simp only [Option.map_some] at h
    injection h with h
    rw [← h, rw_Ft, st_i_eq, st_i_ne (by omega), st_j_si]) (fun q hq hq2 => rw_e_si (by omega) (by omega) (by omega) (by omega) (by omega))
theorem rw_s_Fit_pairs (hj : j < 2) {v : Int32} : (rw_w cy ad S).set (13 + j) (ad (13 + j), .inr (1, [.int (st_i S (39 + 2 * j)), .int v, .ref (ad (19 + j)), .ref (ad (49 + j)), .ref (ad (135 + j)), .long (st_j S j), .ref (ad (137 + j)), .ref (ad (21 + j))])) = rw_w cy ad (st_si S (40 + 2 * j) v) := by
  refine rw_set (S' := st_si S (40 + 2 * j) v) (by
    have h := rw_at (cy := cy) (ad := ad) (S := st_si S (40 + 2 * j) v) (k := 13 + j) (by omega)
    rw [rw_Fit hj] at h
    have h := congrArg (fun z => z.map Prod.snd) h
    simp only [Option.map_some] at h
    injection h with h
    rw [← h, rw_Ft, st_i_ne (by omega), st_i_eq, st_j_si]) (fun q hq hq2 => rw_e_si (by omega) (by omega) (by omega) (by omega) (by omega))
theorem rw_s_History_count {v : Int32} : (rw_w cy ad S).set (15) (ad (15), .inr (2, [.int v, .int (st_i S 44), .ref (ad 18)])) = rw_w cy ad (st_si S (43) v) :=
  rw_set (S' := st_si S (43) v) rfl (fun q hq hq2 => rw_e_si (by omega) (by omega) (by omega) (by omega) (by omega))
theorem rw_s_History_next {v : Int32} : (rw_w cy ad S).set (15) (ad (15), .inr (2, [.int (st_i S 43), .int v, .ref (ad 18)])) = rw_w cy ad (st_si S (44) v) :=
  rw_set (S' := st_si S (44) v) rfl (fun q hq hq2 => rw_e_si (by omega) (by omega) (by omega) (by omega) (by omega))
theorem rw_s_Tape_length {v : Int32} : (rw_w cy ad S).set (16) (ad (16), .inr (3, [.int v, .int (st_i S 46), .int (st_i S 47), .int (st_i S 48), .ref (ad 2), .ref (ad 155), .int (st_i S 49), .int (st_i S 50), .int (st_i S 51), .int (st_i S 52), .int (st_i S 53)])) = rw_w cy ad (st_si S (45) v) :=
  rw_set (S' := st_si S (45) v) rfl (fun q hq hq2 => rw_e_si (by omega) (by omega) (by omega) (by omega) (by omega))
theorem rw_s_Tape_faultKind {v : Int32} : (rw_w cy ad S).set (16) (ad (16), .inr (3, [.int (st_i S 45), .int v, .int (st_i S 47), .int (st_i S 48), .ref (ad 2), .ref (ad 155), .int (st_i S 49), .int (st_i S 50), .int (st_i S 51), .int (st_i S 52), .int (st_i S 53)])) = rw_w cy ad (st_si S (46) v) :=
  rw_set (S' := st_si S (46) v) rfl (fun q hq hq2 => rw_e_si (by omega) (by omega) (by omega) (by omega) (by omega))
theorem rw_s_Tape_lines {v : Int32} : (rw_w cy ad S).set (16) (ad (16), .inr (3, [.int (st_i S 45), .int (st_i S 46), .int v, .int (st_i S 48), .ref (ad 2), .ref (ad 155), .int (st_i S 49), .int (st_i S 50), .int (st_i S 51), .int (st_i S 52), .int (st_i S 53)])) = rw_w cy ad (st_si S (47) v) :=
  rw_set (S' := st_si S (47) v) rfl (fun q hq hq2 => rw_e_si (by omega) (by omega) (by omega) (by omega) (by omega))
theorem rw_s_Tape_begin {v : Int32} : (rw_w cy ad S).set (16) (ad (16), .inr (3, [.int (st_i S 45), .int (st_i S 46), .int (st_i S 47), .int v, .ref (ad 2), .ref (ad 155), .int (st_i S 49), .int (st_i S 50), .int (st_i S 51), .int (st_i S 52), .int (st_i S 53)])) = rw_w cy ad (st_si S (48) v) :=
  rw_set (S' := st_si S (48) v) rfl (fun q hq hq2 => rw_e_si (by omega) (by omega) (by omega) (by omega) (by omega))
theorem rw_s_Tape_at {v : Int32} : (rw_w cy ad S).set (16) (ad (16), .inr (3, [.int (st_i S 45), .int (st_i S 46), .int (st_i S 47), .int (st_i S 48), .ref (ad 2), .ref (ad 155), .int v, .int (st_i S 50), .int (st_i S 51), .int (st_i S 52), .int (st_i S 53)])) = rw_w cy ad (st_si S (49) v) :=
  rw_set (S' := st_si S (49) v) rfl (fun q hq hq2 => rw_e_si (by omega) (by omega) (by omega) (by omega) (by omega))
theorem rw_s_Tape_kind {v : Int32} : (rw_w cy ad S).set (16) (ad (16), .inr (3, [.int (st_i S 45), .int (st_i S 46), .int (st_i S 47), .int (st_i S 48), .ref (ad 2), .ref (ad 155), .int (st_i S 49), .int v, .int (st_i S 51), .int (st_i S 52), .int (st_i S 53)])) = rw_w cy ad (st_si S (50) v) :=
  rw_set (S' := st_si S (50) v) rfl (fun q hq hq2 => rw_e_si (by omega) (by omega) (by omega) (by omega) (by omega))
theorem rw_s_Tape_value {v : Int32} : (rw_w cy ad S).set (16) (ad (16), .inr (3, [.int (st_i S 45), .int (st_i S 46), .int (st_i S 47), .int (st_i S 48), .ref (ad 2), .ref (ad 155), .int (st_i S 49), .int (st_i S 50), .int v, .int (st_i S 52), .int (st_i S 53)])) = rw_w cy ad (st_si S (51) v) :=
  rw_set (S' := st_si S (51) v) rfl (fun q hq hq2 => rw_e_si (by omega) (by omega) (by omega) (by omega) (by omega))
theorem rw_s_Tape_due {v : Int32} : (rw_w cy ad S).set (16) (ad (16), .inr (3, [.int (st_i S 45), .int (st_i S 46), .int (st_i S 47), .int (st_i S 48), .ref (ad 2), .ref (ad 155), .int (st_i S 49), .int (st_i S 50), .int (st_i S 51), .int v, .int (st_i S 53)])) = rw_w cy ad (st_si S (52) v) :=
  rw_set (S' := st_si S (52) v) rfl (fun q hq hq2 => rw_e_si (by omega) (by omega) (by omega) (by omega) (by omega))
theorem rw_s_Tape_subject {v : Int32} : (rw_w cy ad S).set (16) (ad (16), .inr (3, [.int (st_i S 45), .int (st_i S 46), .int (st_i S 47), .int (st_i S 48), .ref (ad 2), .ref (ad 155), .int (st_i S 49), .int (st_i S 50), .int (st_i S 51), .int (st_i S 52), .int v])) = rw_w cy ad (st_si S (53) v) :=
  rw_set (S' := st_si S (53) v) rfl (fun q hq hq2 => rw_e_si (by omega) (by omega) (by omega) (by omega) (by omega))
theorem rw_s_Main_fitStands {v : Int32} : (rw_w cy ad S).set (17) (ad (17), .inr (4, [.ref (ad 16), .ref (ad 0), .ref (ad 1), .ref (ad 13), .ref (ad 14), .int v, .ref (ad 15)])) = rw_w cy ad (st_si S (54) v) :=
  rw_set (S' := st_si S (54) v) rfl (fun q hq hq2 => rw_e_si (by omega) (by omega) (by omega) (by omega) (by omega))
theorem rw_s_Fit_bottom (hj : j < 2) {v : Int64} : (rw_w cy ad S).set (13 + j) (ad (13 + j), .inr (1, [.int (st_i S (39 + 2 * j)), .int (st_i S (40 + 2 * j)), .ref (ad (19 + j)), .ref (ad (49 + j)), .ref (ad (135 + j)), .long v, .ref (ad (137 + j)), .ref (ad (21 + j))])) = rw_w cy ad (st_sj S j v) := by
  refine rw_set (S' := st_sj S j v) (by
    have h := rw_at (cy := cy) (ad := ad) (S := st_sj S j v) (k := 13 + j) (by omega)
    rw [rw_Fit hj] at h
    have h := congrArg (fun z => z.map Prod.snd) h
    simp only [Option.map_some] at h
    injection h with h
    rw [← h, rw_Ft, st_i_sj, st_j_eq]) (fun q hq hq2 => rw_e_sj hj hq)
theorem rw_sA {a n : Nat} {v : Int32} (ha : a < 112) (hn : rw_nA a = n) : (rw_w cy ad S).set (23 + a) (ad (23 + a), .inl (cy 0, n, .inl (upd (st_a S a) i v))) = rw_w cy ad (st_sa S a i v) := by
  refine rw_set (S' := st_sa S a i v) (by
    have h := rw_at (cy := cy) (ad := ad) (S := st_sa S a i v) (k := 23 + a) (by omega)
    rw [rw_intA ha] at h
    have h := congrArg (fun z => z.map Prod.snd) h
    simp only [Option.map_some] at h
    injection h with h
    rw [← h, st_a_eq, hn]) (fun q hq hq2 => rw_e_sa (a := a) rfl rfl rfl (fun b hb => st_a_ne hb) (fun _ => hq) (by omega) (by omega) hq2)
theorem rw_sC {a b n sp dp m : Nat} (ha : b < 112) (hn : rw_nA b = n) : (rw_w cy ad S).set (23 + b) (ad (23 + b), .inl (cy 0, n, .inl (va_cpy (st_a S a) (st_a S b) sp dp m))) = rw_w cy ad (st_cp S a b sp dp m) := by
  refine rw_set (S' := st_cp S a b sp dp m) (by
    have h := rw_at (cy := cy) (ad := ad) (S := st_cp S a b sp dp m) (k := 23 + b) (by omega)
    rw [rw_intA ha] at h
    have h := congrArg (fun z => z.map Prod.snd) h
    simp only [Option.map_some] at h
    injection h with h
    rw [← h, st_ac_eq, hn]) (fun q hq hq2 => rw_e_sa (a := b) rfl rfl rfl (fun b hb => st_ac_ne hb) (fun _ => hq) (by omega) (by omega) hq2)
theorem rw_s_weights (hj : j < 13) {v : Int32} : (rw_w cy ad S).set (23 + 2 * j) (ad (23 + 2 * j), .inl (cy 0, 8, .inl (upd (st_a S (2 * j)) i v))) = rw_w cy ad (st_sa S (2 * j) i v) := rw_sA (by omega) (by unfold rw_nA; rw [if_pos (by omega), if_pos (by omega)])
theorem rw_s_levels (hj : j < 13) {v : Int32} : (rw_w cy ad S).set (24 + 2 * j) (ad (24 + 2 * j), .inl (cy 0, 48, .inl (upd (st_a S (2 * j + 1)) i v))) = rw_w cy ad (st_sa S (2 * j + 1) i v) := by
  rw [show 24 + 2 * j = 23 + (2 * j + 1) by omega]
  exact rw_sA (by omega) (by unfold rw_nA; rw [if_pos (by omega), if_neg (by omega)])
theorem rw_c_weights {h : Nat} (hj : j < 13) {sp dp m : Nat} : (rw_w cy ad S).set (23 + 2 * j) (ad (23 + 2 * j), .inl (cy 0, 8, .inl (va_cpy (st_a S (2 * h)) (st_a S (2 * j)) sp dp m))) = rw_w cy ad (st_cp S (2 * h) (2 * j) sp dp m) := rw_sC (by omega) (by unfold rw_nA; rw [if_pos (by omega), if_pos (by omega)])
theorem rw_c_levels {h : Nat} (hj : j < 13) {sp dp m : Nat} : (rw_w cy ad S).set (24 + 2 * j) (ad (24 + 2 * j), .inl (cy 0, 48, .inl (va_cpy (st_a S (2 * h + 1)) (st_a S (2 * j + 1)) sp dp m))) = rw_w cy ad (st_cp S (2 * h + 1) (2 * j + 1) sp dp m) := by
  rw [show 24 + 2 * j = 23 + (2 * j + 1) by omega]
  exact rw_sC (by omega) (by unfold rw_nA; rw [if_pos (by omega), if_neg (by omega)])
theorem rw_s_parts (hj : j < 2) {v : Int32} : (rw_w cy ad S).set (49 + j) (ad (49 + j), .inl (cy 0, 8, .inl (upd (st_a S (26 + j)) i v))) = rw_w cy ad (st_sa S (26 + j) i v) := by
  rw [show 49 + j = 23 + (26 + j) by omega]
  exact rw_sA (by omega) (by unfold rw_nA; rw [if_neg (by omega), if_pos (by omega)])
theorem rw_s_prow {n : Nat} (hj : j < 2) (hi : i < 42) {v : Int32} : (rw_w cy ad S).set (51 + 42 * j + i) (ad (51 + 42 * j + i), .inl (cy 0, 5, .inl (upd (st_a S (28 + 42 * j + i)) n v))) = rw_w cy ad (st_sa S (28 + 42 * j + i) n v) := by
  rw [show 51 + 42 * j + i = 23 + (28 + 42 * j + i) by omega]
  exact rw_sA (by omega) (by unfold rw_nA; rw [if_neg (by omega), if_neg (by omega)])
theorem rw_s_bytes {v : Int32} : (rw_w cy ad S).set 155 (ad 155, .inl (cy 2, 540, .inl (upd (st_a S 112) i v))) = rw_w cy ad (st_sa S 112 i v) :=
  rw_set (S' := st_sa S 112 i v) rfl (fun q hq hq2 => rw_e_sa (a := 112) rfl rfl rfl (fun b hb => st_a_ne hb) (by omega) (fun _ => hq) (by omega) hq2)
theorem rw_sG {a n : Nat} {v : Int64} (ha : a < 20) (hn : rw_nG a = n) : (rw_w cy ad S).set (135 + a) (ad (135 + a), .inl (cy 1, n, .inr (.inl (vp_updL (st_g S a) i v)))) = rw_w cy ad (st_sg S a i v) := by
  refine rw_set (S' := st_sg S a i v) (by
    have h := rw_at (cy := cy) (ad := ad) (S := st_sg S a i v) (k := 135 + a) (by omega)
    rw [rw_lngA ha] at h
    have h := congrArg (fun z => z.map Prod.snd) h
    simp only [Option.map_some] at h
    injection h with h
    rw [← h, st_g_eq, hn]) (fun q hq hq2 => rw_e_sg (a := a) rfl rfl rfl (fun b hb => st_g_ne hb) hq)
theorem rw_s_tops (hj : j < 2) {v : Int64} : (rw_w cy ad S).set (135 + j) (ad (135 + j), .inl (cy 1, 8, .inr (.inl (vp_updL (st_g S j) i v)))) = rw_w cy ad (st_sg S j i v) := rw_sG (by omega) (by unfold rw_nG; rw [if_pos (by omega)])
theorem rw_s_pulls (hj : j < 2) {v : Int64} : (rw_w cy ad S).set (137 + j) (ad (137 + j), .inl (cy 1, 8, .inr (.inl (vp_updL (st_g S (2 + j)) i v)))) = rw_w cy ad (st_sg S (2 + j) i v) := by
  rw [show 137 + j = 135 + (2 + j) by omega]
  exact rw_sG (by omega) (by unfold rw_nG; rw [if_pos (by omega)])
theorem rw_s_row {n : Nat} (hj : j < 2) (hi : i < 8) {v : Int64} : (rw_w cy ad S).set (139 + 8 * j + i) (ad (139 + 8 * j + i), .inl (cy 1, 16, .inr (.inl (vp_updL (st_g S (4 + 8 * j + i)) n v)))) = rw_w cy ad (st_sg S (4 + 8 * j + i) n v) := by
  rw [show 139 + 8 * j + i = 135 + (4 + 8 * j + i) by omega]
  exact rw_sG (by omega) (by unfold rw_nG; rw [if_neg (by omega)])
end RW

def mw_w (cy : Nat → ClassId) (ad : Nat → Nat) (S : RSt) : va_W := [(ad 0, .inr (5, [.int (st_i S 0), .ref (ad 1), .int (st_i S 1), .int (st_i S 2), .int (st_i S 3), .int (st_i S 4), .int (st_i S 5), .int (st_i S 6), .int (st_i S 7), .int (st_i S 8), .long (st_j S 0), .ref (ad 2), .ref (ad 3), .ref (ad 4), .int (st_i S 9), .int (st_i S 10), .int (st_i S 11), .int (st_i S 12), .ref (ad 5), .ref (ad 6), .ref (ad 7), .ref (ad 8), .ref (ad 9), .int (st_i S 13), .ref (ad 10), .ref (ad 11), .ref (ad 12), .ref (ad 13), .ref (ad 14), .int (st_i S 14), .long (st_j S 1)])), (ad 1, .inl (cy 0, 540, .inl (st_a S 0))), (ad 2, .inl (cy 0, 58, .inl (st_a S 1))), (ad 3, .inl (cy 0, 58, .inl (st_a S 2))), (ad 4, .inl (cy 0, 580, .inl (st_a S 3))), (ad 5, .inl (cy 0, 48, .inl (st_a S 4))), (ad 6, .inl (cy 0, 48, .inl (st_a S 5))), (ad 7, .inl (cy 0, 48, .inl (st_a S 6))), (ad 8, .inl (cy 0, 48, .inl (st_a S 7))), (ad 9, .inl (cy 0, 48, .inl (st_a S 8))), (ad 10, .inl (cy 0, 8, .inl (st_a S 9))), (ad 11, .inl (cy 0, 8, .inl (st_a S 10))), (ad 12, .inl (cy 1, 98, .inr (.inl (st_g S 0)))), (ad 13, .inl (cy 1, 8, .inr (.inl (st_g S 1)))), (ad 14, .inl (cy 1, 8, .inr (.inl (st_g S 2))))]
abbrev mw_t (cy : Nat → ClassId) : List (ClassId × FieldType) := [(cy 0, .int), (cy 1, .long)]
section MW
variable {cy : Nat → ClassId} {ad : Nat → Nat} {S S' : RSt} {i : Nat}
theorem mw_M : (mw_w cy ad S)[0]? = some (ad 0, .inr (5, [.int (st_i S 0), .ref (ad 1), .int (st_i S 1), .int (st_i S 2), .int (st_i S 3), .int (st_i S 4), .int (st_i S 5), .int (st_i S 6), .int (st_i S 7), .int (st_i S 8), .long (st_j S 0), .ref (ad 2), .ref (ad 3), .ref (ad 4), .int (st_i S 9), .int (st_i S 10), .int (st_i S 11), .int (st_i S 12), .ref (ad 5), .ref (ad 6), .ref (ad 7), .ref (ad 8), .ref (ad 9), .int (st_i S 13), .ref (ad 10), .ref (ad 11), .ref (ad 12), .ref (ad 13), .ref (ad 14), .int (st_i S 14), .long (st_j S 1)])) := rfl
theorem mw_tape : (mw_w cy ad S)[1]? = some (ad 1, .inl (cy 0, 540, .inl (st_a S 0))) := rfl
theorem mw_now : (mw_w cy ad S)[2]? = some (ad 2, .inl (cy 0, 58, .inl (st_a S 1))) := rfl
theorem mw_read : (mw_w cy ad S)[3]? = some (ad 3, .inl (cy 0, 58, .inl (st_a S 2))) := rfl
theorem mw_snaps : (mw_w cy ad S)[4]? = some (ad 4, .inl (cy 0, 580, .inl (st_a S 3))) := rfl
theorem mw_pHome : (mw_w cy ad S)[5]? = some (ad 5, .inl (cy 0, 48, .inl (st_a S 4))) := rfl
theorem mw_pFrom : (mw_w cy ad S)[6]? = some (ad 6, .inl (cy 0, 48, .inl (st_a S 5))) := rfl
theorem mw_pTo : (mw_w cy ad S)[7]? = some (ad 7, .inl (cy 0, 48, .inl (st_a S 6))) := rfl
theorem mw_pRise : (mw_w cy ad S)[8]? = some (ad 8, .inl (cy 0, 48, .inl (st_a S 7))) := rfl
theorem mw_pWeight : (mw_w cy ad S)[9]? = some (ad 9, .inl (cy 0, 48, .inl (st_a S 8))) := rfl
theorem mw_part : (mw_w cy ad S)[10]? = some (ad 10, .inl (cy 0, 8, .inl (st_a S 9))) := rfl
theorem mw_unknown : (mw_w cy ad S)[11]? = some (ad 11, .inl (cy 0, 8, .inl (st_a S 10))) := rfl
theorem mw_rows : (mw_w cy ad S)[12]? = some (ad 12, .inl (cy 1, 98, .inr (.inl (st_g S 0)))) := rfl
theorem mw_right : (mw_w cy ad S)[13]? = some (ad 13, .inl (cy 1, 8, .inr (.inl (st_g S 1)))) := rfl
theorem mw_upper : (mw_w cy ad S)[14]? = some (ad 14, .inl (cy 1, 8, .inr (.inl (st_g S 2)))) := rfl
theorem mw_s_thrown {v : Int32} : (mw_w cy ad S).set 0 (ad 0, .inr (5, [.int v, .ref (ad 1), .int (st_i S 1), .int (st_i S 2), .int (st_i S 3), .int (st_i S 4), .int (st_i S 5), .int (st_i S 6), .int (st_i S 7), .int (st_i S 8), .long (st_j S 0), .ref (ad 2), .ref (ad 3), .ref (ad 4), .int (st_i S 9), .int (st_i S 10), .int (st_i S 11), .int (st_i S 12), .ref (ad 5), .ref (ad 6), .ref (ad 7), .ref (ad 8), .ref (ad 9), .int (st_i S 13), .ref (ad 10), .ref (ad 11), .ref (ad 12), .ref (ad 13), .ref (ad 14), .int (st_i S 14), .long (st_j S 1)])) = mw_w cy ad (st_si S 0 v) := rfl
theorem mw_s_taped {v : Int32} : (mw_w cy ad S).set 0 (ad 0, .inr (5, [.int (st_i S 0), .ref (ad 1), .int v, .int (st_i S 2), .int (st_i S 3), .int (st_i S 4), .int (st_i S 5), .int (st_i S 6), .int (st_i S 7), .int (st_i S 8), .long (st_j S 0), .ref (ad 2), .ref (ad 3), .ref (ad 4), .int (st_i S 9), .int (st_i S 10), .int (st_i S 11), .int (st_i S 12), .ref (ad 5), .ref (ad 6), .ref (ad 7), .ref (ad 8), .ref (ad 9), .int (st_i S 13), .ref (ad 10), .ref (ad 11), .ref (ad 12), .ref (ad 13), .ref (ad 14), .int (st_i S 14), .long (st_j S 1)])) = mw_w cy ad (st_si S 1 v) := rfl
theorem mw_s_size {v : Int32} : (mw_w cy ad S).set 0 (ad 0, .inr (5, [.int (st_i S 0), .ref (ad 1), .int (st_i S 1), .int v, .int (st_i S 3), .int (st_i S 4), .int (st_i S 5), .int (st_i S 6), .int (st_i S 7), .int (st_i S 8), .long (st_j S 0), .ref (ad 2), .ref (ad 3), .ref (ad 4), .int (st_i S 9), .int (st_i S 10), .int (st_i S 11), .int (st_i S 12), .ref (ad 5), .ref (ad 6), .ref (ad 7), .ref (ad 8), .ref (ad 9), .int (st_i S 13), .ref (ad 10), .ref (ad 11), .ref (ad 12), .ref (ad 13), .ref (ad 14), .int (st_i S 14), .long (st_j S 1)])) = mw_w cy ad (st_si S 2 v) := rfl
theorem mw_s_to {v : Int32} : (mw_w cy ad S).set 0 (ad 0, .inr (5, [.int (st_i S 0), .ref (ad 1), .int (st_i S 1), .int (st_i S 2), .int v, .int (st_i S 4), .int (st_i S 5), .int (st_i S 6), .int (st_i S 7), .int (st_i S 8), .long (st_j S 0), .ref (ad 2), .ref (ad 3), .ref (ad 4), .int (st_i S 9), .int (st_i S 10), .int (st_i S 11), .int (st_i S 12), .ref (ad 5), .ref (ad 6), .ref (ad 7), .ref (ad 8), .ref (ad 9), .int (st_i S 13), .ref (ad 10), .ref (ad 11), .ref (ad 12), .ref (ad 13), .ref (ad 14), .int (st_i S 14), .long (st_j S 1)])) = mw_w cy ad (st_si S 3 v) := rfl
theorem mw_s_from {v : Int32} : (mw_w cy ad S).set 0 (ad 0, .inr (5, [.int (st_i S 0), .ref (ad 1), .int (st_i S 1), .int (st_i S 2), .int (st_i S 3), .int v, .int (st_i S 5), .int (st_i S 6), .int (st_i S 7), .int (st_i S 8), .long (st_j S 0), .ref (ad 2), .ref (ad 3), .ref (ad 4), .int (st_i S 9), .int (st_i S 10), .int (st_i S 11), .int (st_i S 12), .ref (ad 5), .ref (ad 6), .ref (ad 7), .ref (ad 8), .ref (ad 9), .int (st_i S 13), .ref (ad 10), .ref (ad 11), .ref (ad 12), .ref (ad 13), .ref (ad 14), .int (st_i S 14), .long (st_j S 1)])) = mw_w cy ad (st_si S 4 v) := rfl
theorem mw_s_sort {v : Int32} : (mw_w cy ad S).set 0 (ad 0, .inr (5, [.int (st_i S 0), .ref (ad 1), .int (st_i S 1), .int (st_i S 2), .int (st_i S 3), .int (st_i S 4), .int v, .int (st_i S 6), .int (st_i S 7), .int (st_i S 8), .long (st_j S 0), .ref (ad 2), .ref (ad 3), .ref (ad 4), .int (st_i S 9), .int (st_i S 10), .int (st_i S 11), .int (st_i S 12), .ref (ad 5), .ref (ad 6), .ref (ad 7), .ref (ad 8), .ref (ad 9), .int (st_i S 13), .ref (ad 10), .ref (ad 11), .ref (ad 12), .ref (ad 13), .ref (ad 14), .int (st_i S 14), .long (st_j S 1)])) = mw_w cy ad (st_si S 5 v) := rfl
theorem mw_s_number {v : Int32} : (mw_w cy ad S).set 0 (ad 0, .inr (5, [.int (st_i S 0), .ref (ad 1), .int (st_i S 1), .int (st_i S 2), .int (st_i S 3), .int (st_i S 4), .int (st_i S 5), .int v, .int (st_i S 7), .int (st_i S 8), .long (st_j S 0), .ref (ad 2), .ref (ad 3), .ref (ad 4), .int (st_i S 9), .int (st_i S 10), .int (st_i S 11), .int (st_i S 12), .ref (ad 5), .ref (ad 6), .ref (ad 7), .ref (ad 8), .ref (ad 9), .int (st_i S 13), .ref (ad 10), .ref (ad 11), .ref (ad 12), .ref (ad 13), .ref (ad 14), .int (st_i S 14), .long (st_j S 1)])) = mw_w cy ad (st_si S 6 v) := rfl
theorem mw_s_fault {v : Int32} : (mw_w cy ad S).set 0 (ad 0, .inr (5, [.int (st_i S 0), .ref (ad 1), .int (st_i S 1), .int (st_i S 2), .int (st_i S 3), .int (st_i S 4), .int (st_i S 5), .int (st_i S 6), .int v, .int (st_i S 8), .long (st_j S 0), .ref (ad 2), .ref (ad 3), .ref (ad 4), .int (st_i S 9), .int (st_i S 10), .int (st_i S 11), .int (st_i S 12), .ref (ad 5), .ref (ad 6), .ref (ad 7), .ref (ad 8), .ref (ad 9), .int (st_i S 13), .ref (ad 10), .ref (ad 11), .ref (ad 12), .ref (ad 13), .ref (ad 14), .int (st_i S 14), .long (st_j S 1)])) = mw_w cy ad (st_si S 7 v) := rfl
theorem mw_s_place {v : Int32} : (mw_w cy ad S).set 0 (ad 0, .inr (5, [.int (st_i S 0), .ref (ad 1), .int (st_i S 1), .int (st_i S 2), .int (st_i S 3), .int (st_i S 4), .int (st_i S 5), .int (st_i S 6), .int (st_i S 7), .int v, .long (st_j S 0), .ref (ad 2), .ref (ad 3), .ref (ad 4), .int (st_i S 9), .int (st_i S 10), .int (st_i S 11), .int (st_i S 12), .ref (ad 5), .ref (ad 6), .ref (ad 7), .ref (ad 8), .ref (ad 9), .int (st_i S 13), .ref (ad 10), .ref (ad 11), .ref (ad 12), .ref (ad 13), .ref (ad 14), .int (st_i S 14), .long (st_j S 1)])) = mw_w cy ad (st_si S 8 v) := rfl
theorem mw_s_word {v : Int64} : (mw_w cy ad S).set 0 (ad 0, .inr (5, [.int (st_i S 0), .ref (ad 1), .int (st_i S 1), .int (st_i S 2), .int (st_i S 3), .int (st_i S 4), .int (st_i S 5), .int (st_i S 6), .int (st_i S 7), .int (st_i S 8), .long v, .ref (ad 2), .ref (ad 3), .ref (ad 4), .int (st_i S 9), .int (st_i S 10), .int (st_i S 11), .int (st_i S 12), .ref (ad 5), .ref (ad 6), .ref (ad 7), .ref (ad 8), .ref (ad 9), .int (st_i S 13), .ref (ad 10), .ref (ad 11), .ref (ad 12), .ref (ad 13), .ref (ad 14), .int (st_i S 14), .long (st_j S 1)])) = mw_w cy ad (st_sj S 0 v) := rfl
theorem mw_s_snapMany {v : Int32} : (mw_w cy ad S).set 0 (ad 0, .inr (5, [.int (st_i S 0), .ref (ad 1), .int (st_i S 1), .int (st_i S 2), .int (st_i S 3), .int (st_i S 4), .int (st_i S 5), .int (st_i S 6), .int (st_i S 7), .int (st_i S 8), .long (st_j S 0), .ref (ad 2), .ref (ad 3), .ref (ad 4), .int v, .int (st_i S 10), .int (st_i S 11), .int (st_i S 12), .ref (ad 5), .ref (ad 6), .ref (ad 7), .ref (ad 8), .ref (ad 9), .int (st_i S 13), .ref (ad 10), .ref (ad 11), .ref (ad 12), .ref (ad 13), .ref (ad 14), .int (st_i S 14), .long (st_j S 1)])) = mw_w cy ad (st_si S 9 v) := rfl
theorem mw_s_got {v : Int32} : (mw_w cy ad S).set 0 (ad 0, .inr (5, [.int (st_i S 0), .ref (ad 1), .int (st_i S 1), .int (st_i S 2), .int (st_i S 3), .int (st_i S 4), .int (st_i S 5), .int (st_i S 6), .int (st_i S 7), .int (st_i S 8), .long (st_j S 0), .ref (ad 2), .ref (ad 3), .ref (ad 4), .int (st_i S 9), .int v, .int (st_i S 11), .int (st_i S 12), .ref (ad 5), .ref (ad 6), .ref (ad 7), .ref (ad 8), .ref (ad 9), .int (st_i S 13), .ref (ad 10), .ref (ad 11), .ref (ad 12), .ref (ad 13), .ref (ad 14), .int (st_i S 14), .long (st_j S 1)])) = mw_w cy ad (st_si S 10 v) := rfl
theorem mw_s_sold {v : Int32} : (mw_w cy ad S).set 0 (ad 0, .inr (5, [.int (st_i S 0), .ref (ad 1), .int (st_i S 1), .int (st_i S 2), .int (st_i S 3), .int (st_i S 4), .int (st_i S 5), .int (st_i S 6), .int (st_i S 7), .int (st_i S 8), .long (st_j S 0), .ref (ad 2), .ref (ad 3), .ref (ad 4), .int (st_i S 9), .int (st_i S 10), .int v, .int (st_i S 12), .ref (ad 5), .ref (ad 6), .ref (ad 7), .ref (ad 8), .ref (ad 9), .int (st_i S 13), .ref (ad 10), .ref (ad 11), .ref (ad 12), .ref (ad 13), .ref (ad 14), .int (st_i S 14), .long (st_j S 1)])) = mw_w cy ad (st_si S 11 v) := rfl
theorem mw_s_lines {v : Int32} : (mw_w cy ad S).set 0 (ad 0, .inr (5, [.int (st_i S 0), .ref (ad 1), .int (st_i S 1), .int (st_i S 2), .int (st_i S 3), .int (st_i S 4), .int (st_i S 5), .int (st_i S 6), .int (st_i S 7), .int (st_i S 8), .long (st_j S 0), .ref (ad 2), .ref (ad 3), .ref (ad 4), .int (st_i S 9), .int (st_i S 10), .int (st_i S 11), .int v, .ref (ad 5), .ref (ad 6), .ref (ad 7), .ref (ad 8), .ref (ad 9), .int (st_i S 13), .ref (ad 10), .ref (ad 11), .ref (ad 12), .ref (ad 13), .ref (ad 14), .int (st_i S 14), .long (st_j S 1)])) = mw_w cy ad (st_si S 12 v) := rfl
theorem mw_s_pairs {v : Int32} : (mw_w cy ad S).set 0 (ad 0, .inr (5, [.int (st_i S 0), .ref (ad 1), .int (st_i S 1), .int (st_i S 2), .int (st_i S 3), .int (st_i S 4), .int (st_i S 5), .int (st_i S 6), .int (st_i S 7), .int (st_i S 8), .long (st_j S 0), .ref (ad 2), .ref (ad 3), .ref (ad 4), .int (st_i S 9), .int (st_i S 10), .int (st_i S 11), .int (st_i S 12), .ref (ad 5), .ref (ad 6), .ref (ad 7), .ref (ad 8), .ref (ad 9), .int v, .ref (ad 10), .ref (ad 11), .ref (ad 12), .ref (ad 13), .ref (ad 14), .int (st_i S 14), .long (st_j S 1)])) = mw_w cy ad (st_si S 13 v) := rfl
theorem mw_s_many {v : Int32} : (mw_w cy ad S).set 0 (ad 0, .inr (5, [.int (st_i S 0), .ref (ad 1), .int (st_i S 1), .int (st_i S 2), .int (st_i S 3), .int (st_i S 4), .int (st_i S 5), .int (st_i S 6), .int (st_i S 7), .int (st_i S 8), .long (st_j S 0), .ref (ad 2), .ref (ad 3), .ref (ad 4), .int (st_i S 9), .int (st_i S 10), .int (st_i S 11), .int (st_i S 12), .ref (ad 5), .ref (ad 6), .ref (ad 7), .ref (ad 8), .ref (ad 9), .int (st_i S 13), .ref (ad 10), .ref (ad 11), .ref (ad 12), .ref (ad 13), .ref (ad 14), .int v, .long (st_j S 1)])) = mw_w cy ad (st_si S 14 v) := rfl
theorem mw_s_lower {v : Int64} : (mw_w cy ad S).set 0 (ad 0, .inr (5, [.int (st_i S 0), .ref (ad 1), .int (st_i S 1), .int (st_i S 2), .int (st_i S 3), .int (st_i S 4), .int (st_i S 5), .int (st_i S 6), .int (st_i S 7), .int (st_i S 8), .long (st_j S 0), .ref (ad 2), .ref (ad 3), .ref (ad 4), .int (st_i S 9), .int (st_i S 10), .int (st_i S 11), .int (st_i S 12), .ref (ad 5), .ref (ad 6), .ref (ad 7), .ref (ad 8), .ref (ad 9), .int (st_i S 13), .ref (ad 10), .ref (ad 11), .ref (ad 12), .ref (ad 13), .ref (ad 14), .int (st_i S 14), .long v])) = mw_w cy ad (st_sj S 1 v) := rfl
theorem mw_s_tape {v : Int32} : (mw_w cy ad S).set 1 (ad 1, .inl (cy 0, 540, .inl (upd (st_a S 0) i v))) = mw_w cy ad (st_sa S 0 i v) := rfl
theorem mw_s_now {v : Int32} : (mw_w cy ad S).set 2 (ad 2, .inl (cy 0, 58, .inl (upd (st_a S 1) i v))) = mw_w cy ad (st_sa S 1 i v) := rfl
theorem mw_s_read {v : Int32} : (mw_w cy ad S).set 3 (ad 3, .inl (cy 0, 58, .inl (upd (st_a S 2) i v))) = mw_w cy ad (st_sa S 2 i v) := rfl
theorem mw_s_snaps {v : Int32} : (mw_w cy ad S).set 4 (ad 4, .inl (cy 0, 580, .inl (upd (st_a S 3) i v))) = mw_w cy ad (st_sa S 3 i v) := rfl
theorem mw_s_pHome {v : Int32} : (mw_w cy ad S).set 5 (ad 5, .inl (cy 0, 48, .inl (upd (st_a S 4) i v))) = mw_w cy ad (st_sa S 4 i v) := rfl
theorem mw_s_pFrom {v : Int32} : (mw_w cy ad S).set 6 (ad 6, .inl (cy 0, 48, .inl (upd (st_a S 5) i v))) = mw_w cy ad (st_sa S 5 i v) := rfl
theorem mw_s_pTo {v : Int32} : (mw_w cy ad S).set 7 (ad 7, .inl (cy 0, 48, .inl (upd (st_a S 6) i v))) = mw_w cy ad (st_sa S 6 i v) := rfl
theorem mw_s_pRise {v : Int32} : (mw_w cy ad S).set 8 (ad 8, .inl (cy 0, 48, .inl (upd (st_a S 7) i v))) = mw_w cy ad (st_sa S 7 i v) := rfl
theorem mw_s_pWeight {v : Int32} : (mw_w cy ad S).set 9 (ad 9, .inl (cy 0, 48, .inl (upd (st_a S 8) i v))) = mw_w cy ad (st_sa S 8 i v) := rfl
theorem mw_s_part {v : Int32} : (mw_w cy ad S).set 10 (ad 10, .inl (cy 0, 8, .inl (upd (st_a S 9) i v))) = mw_w cy ad (st_sa S 9 i v) := rfl
theorem mw_s_unknown {v : Int32} : (mw_w cy ad S).set 11 (ad 11, .inl (cy 0, 8, .inl (upd (st_a S 10) i v))) = mw_w cy ad (st_sa S 10 i v) := rfl
theorem mw_s_rows {v : Int64} : (mw_w cy ad S).set 12 (ad 12, .inl (cy 1, 98, .inr (.inl (vp_updL (st_g S 0) i v)))) = mw_w cy ad (st_sg S 0 i v) := rfl
theorem mw_s_right {v : Int64} : (mw_w cy ad S).set 13 (ad 13, .inl (cy 1, 8, .inr (.inl (vp_updL (st_g S 1) i v)))) = mw_w cy ad (st_sg S 1 i v) := rfl
theorem mw_s_upper {v : Int64} : (mw_w cy ad S).set 14 (ad 14, .inl (cy 1, 8, .inr (.inl (vp_updL (st_g S 2) i v)))) = mw_w cy ad (st_sg S 2 i v) := rfl
end MW
