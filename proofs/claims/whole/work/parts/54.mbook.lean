/-! The reference's book in the same words. -/
section MBK
variable {S S' : RSt} {β : BK} {b0 : Nat}
theorem cl0 : (0 : Int32).toNatClampNeg = 0 := by decide
theorem cl1 : (1 : Int32).toNatClampNeg = 1 := by decide
theorem in0 {n : Nat} (h : 0 < n) : vp_in (0 : Int32) n := by
  intro z
  rw [cl0] at z
  rcases z with z | z
  · exact absurd z (by decide)
  · omega
theorem in1 {n : Nat} (h : 1 < n) : vp_in (1 : Int32) n := by
  intro z
  rw [cl1] at z
  rcases z with z | z
  · exact absurd z (by decide)
  · omega
theorem nIm {n : Nat} (h : n ≤ 1000) : (nI n - 1).toInt = (n : Int) - 1 := lv_t h
theorem m_isIn0 {x : Int32} {n : Nat} (hn : n ≤ 1000) (h : ixb x n) : fX5_isIn x 0 (nI n - 1) S = some (0, S) := by
  unfold fX5_isIn
  by_cases c : x < 0
  · rw [if_pos c]
  · rw [if_neg c]
    rcases h with h | ⟨_, h⟩
    · exact absurd h c
    · rw [if_pos]
      rw [Int32.le_iff_toInt_le, nI_t (by omega)] at h
      rw [Int32.lt_iff_toInt_lt, nIm hn]
      omega
theorem m_isIn1 {k n : Nat} (hn : n ≤ 1000) (h : k < n) : fX5_isIn (nI k) 0 (nI n - 1) S = some (1, S) := by
  unfold fX5_isIn
  rw [if_neg (nI_pos (by omega)), if_neg]
  rw [Int32.lt_iff_toInt_lt, nIm hn, nI_t (by omega)]
  omega
theorem m_isMonth0 (B : mB S 1 0 β) {x : Int32} (h : ixb x (bk_n β)) : fX5_isMonth x S = some (0, S) := by
  unfold fX5_isMonth
  rw [ob_in_t (in0 (by decide)), cl0, B.2.1, ob_2t (m_isIn0 (by have := B.1.2.1; omega) h)]
theorem m_isMonth1 (B : mB S 1 0 β) {k : Nat} (h : k < bk_n β) : fX5_isMonth (nI k) S = some (1, S) := by
  unfold fX5_isMonth
  rw [ob_in_t (in0 (by decide)), cl0, B.2.1, ob_2t (m_isIn1 (by have := B.1.2.1; omega) h)]
theorem m_isHome0 (B : mB S 1 0 β) {x : Int32} (h : ixb x (bk_h β)) : fX5_isHome x S = some (0, S) := by
  unfold fX5_isHome
  rw [ob_in_t (in1 (by decide)), cl1, show (1 : Nat) = 0 + 1 from rfl, B.2.2.1, ob_2t (m_isIn0 (by have := B.1.2.2.1; omega) h)]
theorem m_isHome1 (B : mB S 1 0 β) {k : Nat} (h : k < bk_h β) : fX5_isHome (nI k) S = some (1, S) := by
  unfold fX5_isHome
  rw [ob_in_t (in1 (by decide)), cl1, show (1 : Nat) = 0 + 1 from rfl, B.2.2.1, ob_2t (m_isIn1 (by have := B.1.2.2.1; omega) h)]
theorem m_at {a b : Nat} : fX5_at (nI a) (nI b) S = some (nI (10 + (8 * a + b)), S) := by
  unfold fX5_at
  rw [show (8 : Int32) = nI 8 from rfl, show (10 : Int32) = nI 10 from rfl, pk_mul, nI_add, nI_add, show 10 + 8 * a + b = 10 + (8 * a + b) by omega]
theorem m_v (B : mB S 1 0 β) {k : Nat} (hk : k < 48) : st_a S 1 (10 + k) = nI (bk_v β k) := by
  have := B.2.2.2.2 k hk
  rw [show 0 + 10 + k = 10 + k by omega] at this
  exact this
theorem m_isSold0 (B : mB S 1 0 β) {a b : Nat} (ha : a < 6) (hb : b < 8) (h : bk_v β (8 * a + b) = 0) : fX5_isSold (nI a) (nI b) S = some (0, S) := by
  unfold fX5_isSold
  rw [ob_2t m_at, ob_in_t (vp_in_nI (by omega) (by decide)), nI_clamp (by omega), m_v B (by omega), h, if_pos (show nI 0 ≤ 0 by decide)]
theorem m_isSold1 (B : mB S 1 0 β) {a b : Nat} (ha : a < 6) (hb : b < 8) (h : bk_v β (8 * a + b) ≠ 0) : fX5_isSold (nI a) (nI b) S = some (1, S) := by
  have hv := B.1.2.2.2.2.2.1 (8 * a + b)
  unfold fX5_isSold
  rw [ob_2t m_at, ob_in_t (vp_in_nI (by omega) (by decide)), nI_clamp (by omega), m_v B (by omega), if_neg (nI_nle (by omega) (by omega))]
theorem m_levelOf (B : mB S 1 0 β) {a b : Nat} (ha : a < 6) (hb : b < 8) : fX5_levelOf (nI a) (nI b) S = some (nI (bk_v β (8 * a + b)) - 1, S) := by
  unfold fX5_levelOf
  rw [ob_2t m_at, ob_in_t (vp_in_nI (by omega) (by decide)), nI_clamp (by omega), m_v B (by omega)]
theorem m_salesOf (B : mB S 1 0 β) {a : Nat} (ha : a < 6) : fX5_salesOf (nI a) S = some (nI (bk_s β a 8), S) := by
  obtain ⟨r, e, h⟩ := lp_up (fun n i (s : Int32 × RSt) => fX5_salesOf_L4 n (nI a) s.1 (nI i) s.2) (fun i s => s.1 = nI (bk_s β a i) ∧ s.2 = S) 8 (fun r => r = (nI (bk_s β a 8), S))
    (fun n s h => ⟨s, by
      show fX5_salesOf_L4 (n + 1) (nI a) s.1 (nI 8) s.2 = some s
      rw [fX5_salesOf_L4, if_pos (show (8 : Int32) ≤ nI 8 from nI_le (a := 8) (Nat.le_refl _) (by decide))], by
      obtain ⟨c, s⟩ := s
      rw [show c = _ from h.1, show s = _ from h.2]⟩)
    (fun n i s hi h => Or.inr (by
      obtain ⟨c, s⟩ := s
      obtain ⟨h1, h2⟩ := h
      have h1 : c = nI (bk_s β a i) := h1
      have h2 : s = S := h2
      subst h2
      show ∃ s' : Int32 × RSt, _ ∧ fX5_salesOf_L4 (n + 1) (nI a) c (nI i) s = fX5_salesOf_L4 n (nI a) s'.1 (nI (i + 1)) s'.2
      rw [fX5_salesOf_L4, if_neg (show ¬ (8 : Int32) ≤ nI i from nI_ge (b := 8) hi (by decide)), nI_1]
      by_cases q : bk_v β (8 * a + i) = 0
      · refine ⟨(c, s), ⟨?_, rfl⟩, by rw [ob_2t (m_isSold0 B ha hi q), if_pos rfl]⟩
        show c = nI (bk_s β a i + if bk_v β (8 * a + i) = 0 then 0 else 1)
        rw [if_pos q]
        exact h1
      · refine ⟨(c + 1, s), ⟨?_, rfl⟩, by rw [ob_2t (m_isSold1 B ha hi q), if_neg ne0]⟩
        show c + 1 = nI (bk_s β a i + if bk_v β (8 * a + i) = 0 then 0 else 1)
        rw [if_neg q, h1, nI_1]))
    8 0 1000 ((0 : Int32), S) (by omega) (by omega) ⟨rfl, rfl⟩
  subst h
  unfold fX5_salesOf
  have e : fX5_salesOf_L4 1000 (nI a) (0 : Int32) (0 : Int32) S = some (nI (bk_s β a 8), S) := e
  rw [ob_2t e]
theorem ct_add (v : Nat → Nat) (a : Nat) : ∀ m, ct v (a + m) = ct v a + ct (fun b => v (a + b)) m
  | 0 => rfl
  | m + 1 => by rw [← Nat.add_assoc, ct, ct_add v a m, ct]; omega
theorem ct_zero {v : Nat → Nat} : ∀ {k : Nat}, (∀ i, i < k → v i = 0) → ct v k = 0
  | 0, _ => rfl
  | k + 1, h => by rw [ct, ct_zero (fun i hi => h i (by omega)), if_pos (h k (by omega))]
theorem ct_8 (β : BK) (a : Nat) : ct (bk_v β) (8 * (a + 1)) = ct (bk_v β) (8 * a) + bk_s β a 8 := by
  rw [show 8 * (a + 1) = 8 * a + 8 by omega, ct_add]
  rfl
theorem ct_h (h : bk_ok β) : ct (bk_v β) (8 * bk_h β) = bk_c β := by
  have hh := h.2.2.1
  have e := ct_add (bk_v β) (8 * bk_h β) (48 - 8 * bk_h β)
  rw [show 8 * bk_h β + (48 - 8 * bk_h β) = 48 by omega] at e
  have z : ct (fun b => bk_v β (8 * bk_h β + b)) (48 - 8 * bk_h β) = 0 := ct_zero (fun i hi => by
    by_cases q : bk_v β (8 * bk_h β + i) = 0
    · exact q
    · have := h.2.2.2.2.2.2 (bk_h β + i / 8) (i % 8) (Nat.mod_lt _ (by decide)) (by
        rw [show 8 * (bk_h β + i / 8) + i % 8 = 8 * bk_h β + i by omega]
        exact q)
      omega)
  show _ = ct (bk_v β) 48
  omega
theorem bk_s8 (h : bk_ok β) {a : Nat} : bk_s β a 8 = bk_s β a (bk_n β) := by
  have hn := h.2.1
  have e := ct_add (fun b => bk_v β (8 * a + b)) (bk_n β) (8 - bk_n β)
  rw [show bk_n β + (8 - bk_n β) = 8 by omega] at e
  have z : ct (fun b => bk_v β (8 * a + (bk_n β + b))) (8 - bk_n β) = 0 := ct_zero (fun i hi => by
    by_cases q : bk_v β (8 * a + (bk_n β + i)) = 0
    · exact q
    · have := h.2.2.2.2.2.2 a (bk_n β + i) (by omega) q
      omega)
  show ct (fun b => bk_v β (8 * a + b)) 8 = ct (fun b => bk_v β (8 * a + b)) (bk_n β)
  omega
theorem m_sales (B : mB S 1 0 β) : fX5_sales S = some (nI (bk_c β), S) := by
  have hh := B.1.2.2.1
  obtain ⟨r, e, h⟩ := lp_up (fun n i (s : Int32 × RSt) => fX5_sales_L4 n s.1 (nI i) s.2) (fun i s => s.1 = nI (ct (bk_v β) (8 * i)) ∧ s.2 = S) (bk_h β) (fun r => r = (nI (bk_c β), S))
    (fun n s h => ⟨s, by
      obtain ⟨c, s⟩ := s
      have h2 : s = S := h.2
      subst h2
      show fX5_sales_L4 (n + 1) c (nI (bk_h β)) s = some (c, s)
      rw [fX5_sales_L4, ob_in_t (in1 (by decide)), cl1, show (1 : Nat) = 0 + 1 from rfl, B.2.2.1, if_pos (nI_le (Nat.le_refl _) (by omega))], by
      obtain ⟨c, s⟩ := s
      rw [show c = _ from h.1, show s = _ from h.2, ct_h B.1]⟩)
    (fun n i s hi h => Or.inr (by
      obtain ⟨c, s⟩ := s
      obtain ⟨h1, h2⟩ := h
      have h1 : c = nI (ct (bk_v β) (8 * i)) := h1
      have h2 : s = S := h2
      subst h2
      show ∃ s' : Int32 × RSt, _ ∧ fX5_sales_L4 (n + 1) c (nI i) s = fX5_sales_L4 n s'.1 (nI (i + 1)) s'.2
      refine ⟨(c + nI (bk_s β i 8), s), ⟨?_, rfl⟩, ?_⟩
      · show c + nI (bk_s β i 8) = nI (ct (bk_v β) (8 * (i + 1)))
        rw [ct_8, h1, nI_add]
      · rw [fX5_sales_L4, ob_in_t (in1 (by decide)), cl1, show (1 : Nat) = 0 + 1 from rfl, B.2.2.1, if_neg (nI_ge (b := bk_h β) hi (by omega)), ob_2t (m_salesOf B (by omega)), show (0 + 1 : Nat) = 1 from rfl, nI_1]))
    (bk_h β) 0 1000 ((0 : Int32), S) (by omega) (by omega) ⟨rfl, rfl⟩
  subst h
  unfold fX5_sales
  have e : fX5_sales_L4 1000 (0 : Int32) (0 : Int32) S = some (nI (bk_c β), S) := e
  rw [ob_2t e]
theorem m_weightOf (B : mB S 1 0 β) {d : Nat} (hd : d < 8) : fX5_weightOf (nI d) S = some (nI (wt β d), S) := by
  have hw := B.1.2.2.2.1
  have hr : ∀ g, g < 8 → st_a S 1 (2 + g) = nI (bk_w β g) := fun g hg => by
    have := B.2.2.2.1 g hg
    rw [show 0 + 2 + g = 2 + g by omega] at this
    exact this
  obtain ⟨Z, e, h⟩ := lp_dn (fun n i s => fX5_weightOf_L2 n (nI i) s) (fun i s => s = S ∧ wt β i = wt β d ∧ i < 8) (fun r => (r = .inr S ∧ wt β d = 1) ∨ ∃ g, g < 8 ∧ r = .inl (nI g, S) ∧ wt β d = bk_w β g)
    (fun n s h => ⟨.inr s, by
      show fX5_weightOf_L2 (n + 1) (nI 0) s = _
      rw [fX5_weightOf_L2, if_pos (by decide)], Or.inl ⟨by rw [h.1], h.2.1.symm.trans rfl⟩⟩)
    (fun n i s h => by
      obtain ⟨rfl, h, hi⟩ := h
      show (∃ r, fX5_weightOf_L2 (n + 1) (nI (i + 1)) s = some r ∧ _) ∨ ∃ s', _ ∧ fX5_weightOf_L2 (n + 1) (nI (i + 1)) s = fX5_weightOf_L2 n (nI i) s'
      have w := hw (i + 1)
      rw [fX5_weightOf_L2, if_neg (nI_nle (by omega) (by omega)), show (2 : Int32) + nI (i + 1) = nI (2 + (i + 1)) from nI_add 2 (i + 1), ob_in_t (vp_in_nI (by omega) (by decide)), nI_clamp (by omega), hr _ (by omega), pk_m1]
      by_cases q : bk_w β (i + 1) = 0
      · refine Or.inr ⟨s, ⟨rfl, ?_, by omega⟩, by rw [q, if_pos (show nI 0 ≤ 0 by decide)]⟩
        rw [wt, if_pos q] at h
        exact h
      · refine Or.inl ⟨.inl (nI (i + 1), s), by rw [if_neg (nI_nle (by omega) (by omega))], Or.inr ⟨i + 1, by omega, rfl, ?_⟩⟩
        rw [wt, if_neg q] at h
        exact h.symm)
    d 1000 S (by omega) ⟨rfl, rfl, hd⟩
  unfold fX5_weightOf
  have e : fX5_weightOf_L2 1000 (nI d) S = some Z := e
  rw [ob_1t e]
  rcases h with ⟨rfl, h⟩ | ⟨g, hg, rfl, h⟩
  · rw [h]
    rfl
  · show ob_in ((2 : Int32) + nI g) 58 (some (st_a S 1 ((2 : Int32) + nI g).toNatClampNeg, S)) = _
    rw [show (2 : Int32) + nI g = nI (2 + g) from nI_add 2 g, ob_in_t (vp_in_nI (by omega) (by decide)), nI_clamp (by omega), hr _ hg, h]
end MBK
