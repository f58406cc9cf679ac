/-! The landed book's other methods. -/
theorem i32_add {x y : Int32} (h : -2147483648 ≤ x.toInt + y.toInt) (h2 : x.toInt + y.toInt < 2147483648) : (x + y).toInt = x.toInt + y.toInt := by
  rw [Int32.toInt_add]
  exact Int.bmod_eq_of_le (by omega) (by omega)
theorem i32_sub {x y : Int32} (h : -2147483648 ≤ x.toInt - y.toInt) (h2 : x.toInt - y.toInt < 2147483648) : (x - y).toInt = x.toInt - y.toInt := by
  rw [Int32.toInt_sub]
  exact Int.bmod_eq_of_le (by omega) (by omega)
theorem i32_1 : (1 : Int32).toInt = 1 := by decide
theorem lv_t {v : Nat} (h : v ≤ 1000) : (nI v - 1).toInt = (v : Int) - 1 := by
  rw [i32_sub] <;> rw [nI_t (by omega), i32_1] <;> omega
theorem lv_x {v : Nat} (h : v ≤ 1000) {x : Int32} (h1 : -999 ≤ x.toInt) (h2 : x.toInt ≤ 999) : (nI v - 1 + x).toInt = (v : Int) - 1 + x.toInt := by
  rw [i32_add] <;> rw [lv_t h] <;> omega
/-- all levels of a home can be moved so much -/
def mvOK (β : BK) (a : Nat) (d : Int) : Prop := ∀ b, b < 8 → bk_v β (8 * a + b) ≠ 0 → 0 ≤ (bk_v β (8 * a + b) : Int) - 1 + d ∧ (bk_v β (8 * a + b) : Int) - 1 + d ≤ 999
def bk_mv (β : BK) (a : Nat) (d : Int) (m : Nat) : BK := (bk_n β, bk_h β, bk_w β, fun k => if (8 * a ≤ k ∧ k < 8 * a + m) ∧ bk_v β k ≠ 0 then ((bk_v β k : Int) + d).toNat else bk_v β k)
def bk_s (β : BK) (a m : Nat) : Nat := ct (fun b => bk_v β (8 * a + b)) m
theorem st_step {s : RSt} {a i : Nat} {v : Int32} (h : ∀ k, k < i → st_a s a k = v) : ∀ k, k < i + 1 → st_a (st_sa s a i v) a k = v := by
  intro k hk
  rw [st_a_eq]
  unfold upd
  by_cases e : k = i
  · rw [if_pos e]
  · rw [if_neg e]
    exact h k (by omega)
section CBK2
variable {S S' : RSt} {j u : Nat} {β : BK}
theorem c_canMove (B : cB S j β) {a : Nat} (ha : a < bk_h β) {x : Int32} (h1 : -999 ≤ x.toInt) (h2 : x.toInt ≤ 999) : (mvOK β a x.toInt ∧ fX0_canMove j (nI a) x S = some (1, S)) ∨ (¬ mvOK β a x.toInt ∧ fX0_canMove j (nI a) x S = some (0, S)) := by
  have hn := B.1.2.1
  have hv := B.1.2.2.2.2.2.1
  have hz := B.1.2.2.2.2.2.2
  obtain ⟨Z, e, h⟩ := lp_up (fun n i s => fX0_canMove_L2 j n (nI a) x (nI i) s) (fun i s => s = S ∧ ∀ b, b < i → bk_v β (8 * a + b) ≠ 0 → 0 ≤ (bk_v β (8 * a + b) : Int) - 1 + x.toInt ∧ (bk_v β (8 * a + b) : Int) - 1 + x.toInt ≤ 999) (bk_n β) (fun r => (mvOK β a x.toInt ∧ r = .inr S) ∨ (¬ mvOK β a x.toInt ∧ r = .inl S))
    (fun n s h => ⟨.inr s, by
      show fX0_canMove_L2 j (n + 1) (nI a) x (nI (bk_n β)) s = _
      rw [h.1, fX0_canMove_L2, B.2.1, if_pos (nI_le (Nat.le_refl _) (by omega))], Or.inl ⟨fun b hb hq => h.2 b (hz a b hb hq).2 hq, by rw [h.1]⟩⟩)
    (fun n i s hi h => by
      show (∃ r, fX0_canMove_L2 j (n + 1) (nI a) x (nI i) s = some r ∧ _) ∨ ∃ s', _ ∧ fX0_canMove_L2 j (n + 1) (nI a) x (nI i) s = fX0_canMove_L2 j n (nI a) x (nI (i + 1)) s'
      obtain ⟨rfl, h⟩ := h
      rw [fX0_canMove_L2, B.2.1, if_neg (nI_ge (b := bk_n β) hi (by omega)), nI_1, ob_2t (c_levelAt1 B ha hi)]
      by_cases q : bk_v β (8 * a + i) = 0
      · refine Or.inr ⟨s, ⟨rfl, fun b hb hq => ?_⟩, by rw [if_pos ((nI_m1 (c_v30 B _)).mpr q)]⟩
        by_cases e : b = i
        · subst e
          exact absurd q hq
        · exact h b (by omega) hq
      · rw [if_neg (fun z => q ((nI_m1 (c_v30 B _)).mp z))]
        have t := lv_x (hv (8 * a + i)) h1 h2
        by_cases c1 : nI (bk_v β (8 * a + i)) - 1 + x < 0
        · refine Or.inl ⟨.inl s, by rw [if_pos c1], Or.inr ⟨fun z => ?_, rfl⟩⟩
          have := z i (by omega) q
          rw [Int32.lt_iff_toInt_lt, t, show (0 : Int32).toInt = 0 by decide] at c1
          omega
        · rw [if_neg c1]
          by_cases c2 : nI (bk_v β (8 * a + i)) - 1 + x ≤ 999
          · refine Or.inr ⟨s, ⟨rfl, fun b hb hq => ?_⟩, by rw [if_pos c2]⟩
            by_cases e : b = i
            · subst e
              rw [Int32.lt_iff_toInt_lt, t, show (0 : Int32).toInt = 0 by decide] at c1
              rw [Int32.le_iff_toInt_le, t, show (999 : Int32).toInt = 999 by decide] at c2
              omega
            · exact h b (by omega) hq
          · refine Or.inl ⟨.inl s, by rw [if_neg c2], Or.inr ⟨fun z => ?_, rfl⟩⟩
            have := z i (by omega) q
            rw [Int32.le_iff_toInt_le, t, show (999 : Int32).toInt = 999 by decide] at c2
            omega)
    (bk_n β) 0 1000 S (by omega) (by omega) ⟨rfl, fun b hb => absurd hb (Nat.not_lt_zero b)⟩
  unfold fX0_canMove
  rw [show (0 : Int32) = nI 0 from rfl, ob_1t e]
  rcases h with ⟨h, rfl⟩ | ⟨h, rfl⟩
  · exact Or.inl ⟨h, rfl⟩
  · exact Or.inr ⟨h, rfl⟩
theorem bk_mv0 (a : Nat) (d : Int) : bk_mv β a d 0 = β := by
  unfold bk_mv
  have : (fun k => if (8 * a ≤ k ∧ k < 8 * a + 0) ∧ bk_v β k ≠ 0 then ((bk_v β k : Int) + d).toNat else bk_v β k) = bk_v β := funext fun k => if_neg (by omega)
  rw [this]
  rfl
theorem bk_mv_e {a m : Nat} {d : Int} (h : bk_v β (8 * a + m) = 0) : bk_mv β a d m = bk_mv β a d (m + 1) := by
  unfold bk_mv
  have : (fun k => if (8 * a ≤ k ∧ k < 8 * a + m) ∧ bk_v β k ≠ 0 then ((bk_v β k : Int) + d).toNat else bk_v β k) = (fun k => if (8 * a ≤ k ∧ k < 8 * a + (m + 1)) ∧ bk_v β k ≠ 0 then ((bk_v β k : Int) + d).toNat else bk_v β k) := by
    funext k
    by_cases c : (8 * a ≤ k ∧ k < 8 * a + m) ∧ bk_v β k ≠ 0
    · rw [if_pos c, if_pos ⟨by omega, c.2⟩]
    · rw [if_neg c, if_neg (fun z => c ⟨⟨z.1.1, by
        rcases Nat.lt_or_ge k (8 * a + m) with q | q
        · exact q
        · have e : k = 8 * a + m := by omega
          exact absurd h (by rw [← e]; exact z.2)⟩, z.2⟩)]
  rw [this]
theorem bk_mv_s {a m : Nat} {d : Int} (h : bk_v β (8 * a + m) ≠ 0) : bk_set (bk_mv β a d m) (8 * a + m) ((bk_v β (8 * a + m) : Int) + d).toNat = bk_mv β a d (m + 1) := by
  unfold bk_set
  have : va_up (bk_v (bk_mv β a d m)) (8 * a + m) ((bk_v β (8 * a + m) : Int) + d).toNat = bk_v (bk_mv β a d (m + 1)) := by
    funext k
    show (if k = 8 * a + m then ((bk_v β (8 * a + m) : Int) + d).toNat else if (8 * a ≤ k ∧ k < 8 * a + m) ∧ bk_v β k ≠ 0 then ((bk_v β k : Int) + d).toNat else bk_v β k) = (if (8 * a ≤ k ∧ k < 8 * a + (m + 1)) ∧ bk_v β k ≠ 0 then ((bk_v β k : Int) + d).toNat else bk_v β k)
    by_cases e : k = 8 * a + m
    · rw [if_pos e, if_pos ⟨by omega, by rw [e]; exact h⟩, e]
    · rw [if_neg e]
      by_cases c : (8 * a ≤ k ∧ k < 8 * a + m) ∧ bk_v β k ≠ 0
      · rw [if_pos c, if_pos ⟨by omega, c.2⟩]
      · rw [if_neg c, if_neg (fun z => c ⟨by omega, z.2⟩)]
  rw [this]
  rfl
theorem bk_mv_v {a m b : Nat} {d : Int} (h : m ≤ b) : bk_v (bk_mv β a d m) (8 * a + b) = bk_v β (8 * a + b) := by
  show (if (8 * a ≤ 8 * a + b ∧ 8 * a + b < 8 * a + m) ∧ bk_v β (8 * a + b) ≠ 0 then _ else _) = _
  rw [if_neg (by omega)]
/-- a level moved, the number of sales as it was -/
theorem c_write2 (B : cB S j β) {a b x : Nat} (ha : a < bk_h β) (hb : b < bk_n β) (hx : x ≤ 1000) (h0 : x ≠ 0) (h1 : bk_v β (8 * a + b) ≠ 0) {y : Int32} (hy : y = nI x - 1) : cB (st_sa S (2 * j + 1) (8 * a + b) y) j (bk_set β (8 * a + b) x) := by
  have h3 := B.1.2.2.1
  have h2 := B.1.2.1
  have hc := bk_c_set (β := β) (k := 8 * a + b) (x := x) (by omega)
  rw [if_neg h1, if_neg h0] at hc
  have w := c_write B ha hb hx (c := nI (bk_c β)) (by rw [show bk_c (bk_set β (8 * a + b) x) = bk_c β by omega])
  subst hy
  refine cB_of w ?_ ?_ ?_ rfl rfl
  · rw [st_i_ne (by omega)]
  · rw [st_i_ne (by omega)]
  · rw [st_i_eq]
    exact B.2.2.2.1
theorem c_moveLevels (B : cB S j β) {a : Nat} (ha : a < bk_h β) {x : Int32} (h1 : -999 ≤ x.toInt) (h2 : x.toInt ≤ 999) (hm : mvOK β a x.toInt) : ∃ S', fX0_moveLevels j (nI a) x S = some (nI (bk_s β a (bk_n β)), S') ∧ cB S' j (bk_mv β a x.toInt (bk_n β)) ∧ fB j S S' := by
  have hn := B.1.2.1
  have hh := B.1.2.2.1
  have hv := B.1.2.2.2.2.2.1
  obtain ⟨r, e, h⟩ := lp_up (fun n i (s : Int32 × RSt) => fX0_moveLevels_L5 j n (nI a) x s.1 (nI i) s.2) (fun i s => s.1 = nI (bk_s β a i) ∧ cB s.2 j (bk_mv β a x.toInt i) ∧ fB j S s.2) (bk_n β) (fun r => r.1 = nI (bk_s β a (bk_n β)) ∧ cB r.2 j (bk_mv β a x.toInt (bk_n β)) ∧ fB j S r.2)
    (fun n s h => ⟨s, by
      show fX0_moveLevels_L5 j (n + 1) (nI a) x s.1 (nI (bk_n β)) s.2 = some s
      rw [fX0_moveLevels_L5, h.2.1.2.1, show bk_n (bk_mv β a x.toInt (bk_n β)) = bk_n β from rfl, if_pos (nI_le (Nat.le_refl _) (by omega))], h⟩)
    (fun n i s hi h => Or.inr (by
      obtain ⟨c, s⟩ := s
      obtain ⟨hc, hB, hF⟩ := h
      have hc : c = nI (bk_s β a i) := hc
      have hB : cB s j (bk_mv β a x.toInt i) := hB
      have hF : fB j S s := hF
      show ∃ s' : Int32 × RSt, _ ∧ fX0_moveLevels_L5 j (n + 1) (nI a) x c (nI i) s = fX0_moveLevels_L5 j n (nI a) x s'.1 (nI (i + 1)) s'.2
      have ev := bk_mv_v (β := β) (a := a) (m := i) (b := i) (d := x.toInt) (Nat.le_refl i)
      rw [fX0_moveLevels_L5, hB.2.1, show bk_n (bk_mv β a x.toInt i) = bk_n β from rfl, if_neg (nI_ge (b := bk_n β) hi (by omega)), nI_1, ob_2t (c_levelAt1 hB ha hi), ev]
      by_cases q : bk_v β (8 * a + i) = 0
      · refine ⟨(c, s), ⟨?_, ?_, hF⟩, by rw [if_pos ((nI_m1 (c_v30 B _)).mpr q)]⟩
        · show c = nI (bk_s β a i + if bk_v β (8 * a + i) = 0 then 0 else 1)
          rw [if_pos q]
          exact hc
        · rw [← bk_mv_e q]
          exact hB
      · have ok := hm i (by omega) q
        have hvi := hv (8 * a + i)
        have t := lv_x hvi h1 h2
        have hy : nI (bk_v β (8 * a + i)) - 1 + x = nI ((bk_v β (8 * a + i) : Int) + x.toInt).toNat - 1 := by
          apply Int32.toInt_inj.mp
          rw [t, lv_t (by omega)]
          omega
        refine ⟨(c + 1, st_sa s (2 * j + 1) (8 * a + i) (st_a s (2 * j + 1) (8 * a + i) + x)), ⟨?_, ?_, fr_tr hF (fr_sa (Or.inr rfl))⟩, by rw [if_neg (fun z => q ((nI_m1 (c_v30 B _)).mp z)), ix_88 (by omega) (by omega), ob_in_t (vp_in_nI (by omega) (by decide)), ob_in_t (vp_in_nI (by omega) (by decide)), nI_clamp (by omega)]⟩
        · show c + 1 = nI (bk_s β a i + if bk_v β (8 * a + i) = 0 then 0 else 1)
          rw [if_neg q, hc, nI_1]
        · rw [← bk_mv_s q]
          refine c_write2 hB ha hi (by omega) (by omega) (by rw [ev]; exact q) ?_
          rw [hB.2.2.2.2.2 _ (by omega), ev, hy]))
    (bk_n β) 0 1000 ((0 : Int32), S) (by omega) (by omega) ⟨rfl, by rw [bk_mv0]; exact B, fr_rf⟩
  obtain ⟨c, S'⟩ := r
  refine ⟨S', ?_, h.2⟩
  unfold fX0_moveLevels
  have e : fX0_moveLevels_L5 j 1000 (nI a) x 0 (nI 0) S = some (c, S') := e
  rw [show fX0_moveLevels_L5 j 1000 (nI a) x (0 : Int32) (0 : Int32) S = some (c, S') from e, ob_2t rfl, show c = _ from h.1]
theorem c_copyFrom (B : cB S u β) (hju : j ≠ u) : ∃ S', fX0_copyFrom j u S = some S' ∧ cB S' j β ∧ fB j S S' := by
  refine ⟨_, rfl, ?_, ?_⟩
  · refine ⟨B.1, ?_, ?_, ?_, fun g hg => ?_, fun k hk => ?_⟩
    · rw [st_i_cp, st_i_cp, st_i_ne (by omega), st_i_ne (by omega), st_i_eq]
      exact B.2.1
    · rw [st_i_cp, st_i_cp, st_i_ne (by omega), st_i_eq, st_i_ne (by omega)]
      exact B.2.2.1
    · rw [st_i_cp, st_i_cp, st_i_eq, st_i_ne (by omega), st_i_ne (by omega)]
      exact B.2.2.2.1
    · rw [st_ac_ne (by omega), st_ac_eq, pk_cpy_in (by show (0 : Int32).toNatClampNeg ≤ g; rw [show (0 : Int32).toNatClampNeg = 0 by decide]; omega) (by rw [show (0 : Int32).toNatClampNeg = 0 by decide, show (8 : Int32).toNatClampNeg = 8 by decide]; omega), st_a_si, st_a_si, st_a_si, show (0 : Int32).toNatClampNeg = 0 by decide, Nat.zero_add, Nat.sub_zero]
      exact B.2.2.2.2.1 g hg
    · rw [st_ac_eq, pk_cpy_in (by show (0 : Int32).toNatClampNeg ≤ k; rw [show (0 : Int32).toNatClampNeg = 0 by decide]; omega) (by rw [show (0 : Int32).toNatClampNeg = 0 by decide, show (48 : Int32).toNatClampNeg = 48 by decide]; omega), st_ac_ne (by omega), st_a_si, st_a_si, st_a_si, show (0 : Int32).toNatClampNeg = 0 by decide, Nat.zero_add, Nat.sub_zero]
      exact B.2.2.2.2.2 k hk
  · exact fr_tr (fr_tr (fr_tr (fr_tr (fr_si (Or.inl rfl)) (fr_si (Or.inr (Or.inl rfl)))) (fr_si (Or.inr (Or.inr rfl)))) (fr_cp (Or.inl rfl))) (fr_cp (Or.inr rfl))
/-- a new book -/
def bk_0 (n : Nat) : BK := (n, 0, fun _ => 0, fun _ => 0)
theorem ct_0 : ∀ k, ct (fun _ => 0) k = 0
  | 0 => rfl
  | k + 1 => by rw [ct, ct_0 k]; rfl
theorem bk_0ok {n : Nat} (h : 2 ≤ n) (h2 : n ≤ 8) : bk_ok (bk_0 n) := ⟨h, h2, Nat.zero_le _, fun _ => Nat.zero_le _, fun _ _ => rfl, fun _ => Nat.zero_le _, fun _ _ _ z => absurd rfl z⟩
theorem c_reset {n : Nat} (h : 2 ≤ n) (h2 : n ≤ 8) (S : RSt) (j : Nat) : ∃ S', fX0_reset j (nI n) S = some S' ∧ cB S' j (bk_0 n) ∧ fB j S S' := by
  obtain ⟨S1, e1, h1⟩ := lp_up (fun n i s => fX0_reset_L17 j n (nI i) s) (fun i s => (∀ k, k < i → st_a s (2 * j) k = 0) ∧ fr no no (fun a => a = 2 * j) no (st_si (st_si (st_si S (3 * j) (nI n)) (3 * j + 1) 0) (3 * j + 2) 0) s) 8 (fun r => (∀ k, k < 8 → st_a r (2 * j) k = 0) ∧ fr no no (fun a => a = 2 * j) no (st_si (st_si (st_si S (3 * j) (nI n)) (3 * j + 1) 0) (3 * j + 2) 0) r)
    (fun n s h => ⟨s, by
      show fX0_reset_L17 j (n + 1) (nI 8) s = some s
      rw [fX0_reset_L17, if_pos (show (8 : Int32) ≤ nI 8 from nI_le (a := 8) (Nat.le_refl _) (by decide))], h⟩)
    (fun n i s hi h => Or.inr ⟨st_sa s (2 * j) i 0, ⟨st_step h.1, fr_tr h.2 (fr_sa rfl)⟩, by
      show fX0_reset_L17 j (n + 1) (nI i) s = fX0_reset_L17 j n (nI (i + 1)) (st_sa s (2 * j) i 0)
      rw [fX0_reset_L17, if_neg (show ¬ (8 : Int32) ≤ nI i from nI_ge (b := 8) hi (by decide)), ob_in_t (vp_in_nI hi (by decide)), nI_1, nI_clamp (by omega)]⟩)
    8 0 1000 (st_si (st_si (st_si S (3 * j) (nI n)) (3 * j + 1) 0) (3 * j + 2) 0) (by omega) (by omega) ⟨fun k hk => absurd hk (Nat.not_lt_zero k), fr_rf⟩
  obtain ⟨S2, e2, h2'⟩ := lp_up (fun n i s => fX0_reset_L41 j n (nI i) s) (fun i s => (∀ k, k < i → st_a s (2 * j + 1) k = -1) ∧ fr no no (fun a => a = 2 * j + 1) no S1 s) 48 (fun r => (∀ k, k < 48 → st_a r (2 * j + 1) k = -1) ∧ fr no no (fun a => a = 2 * j + 1) no S1 r)
    (fun n s h => ⟨s, by
      show fX0_reset_L41 j (n + 1) (nI 48) s = some s
      rw [fX0_reset_L41, if_pos (show (48 : Int32) ≤ nI 48 from nI_le (a := 48) (Nat.le_refl _) (by decide))], h⟩)
    (fun n i s hi h => Or.inr ⟨st_sa s (2 * j + 1) i (-1), ⟨st_step h.1, fr_tr h.2 (fr_sa rfl)⟩, by
      show fX0_reset_L41 j (n + 1) (nI i) s = fX0_reset_L41 j n (nI (i + 1)) (st_sa s (2 * j + 1) i (-1))
      rw [fX0_reset_L41, if_neg (show ¬ (48 : Int32) ≤ nI i from nI_ge (b := 48) hi (by decide)), ob_in_t (vp_in_nI hi (by decide)), nI_1, nI_clamp (by omega)]⟩)
    48 0 1000 S1 (by omega) (by omega) ⟨fun k hk => absurd hk (Nat.not_lt_zero k), fr_rf⟩
  refine ⟨S2, ?_, ⟨bk_0ok h h2, ?_, ?_, ?_, fun g hg => ?_, fun k hk => ?_⟩, ?_⟩
  · have e1 : fX0_reset_L17 j 1000 (0 : Int32) (st_si (st_si (st_si S (3 * j) (nI n)) (3 * j + 1) 0) (3 * j + 2) 0) = some S1 := e1
    have e2 : fX0_reset_L41 j 1000 (0 : Int32) S1 = some S2 := e2
    unfold fX0_reset
    rw [ob_1t e1, ob_1t e2]
  · rw [h2'.2.1 _ (fun z => z), h1.2.1 _ (fun z => z), st_i_ne (by omega), st_i_ne (by omega), st_i_eq]
    rfl
  · rw [h2'.2.1 _ (fun z => z), h1.2.1 _ (fun z => z), st_i_ne (by omega), st_i_eq]
    rfl
  · rw [h2'.2.1 _ (fun z => z), h1.2.1 _ (fun z => z), st_i_eq]
    show 0 = nI (ct (fun _ => 0) 48)
    rw [ct_0]
    rfl
  · rw [h2'.2.2.2.1 (2 * j) (by omega), h1.1 g hg]
    rfl
  · rw [h2'.1 k hk]
    show -1 = nI 0 - 1
    decide
  · refine fr_tr (fr_tr ?_ (fr_mo h1.2 (fun _ z => z.elim) (fun _ z => z) (fun _ z => Or.inl z) (fun _ z => z))) (fr_mo h2'.2 (fun _ z => z.elim) (fun _ z => z) (fun _ z => Or.inr z) (fun _ z => z))
    exact fr_tr (fr_tr (fr_si (Or.inl rfl)) (fr_si (Or.inr (Or.inl rfl)))) (fr_si (Or.inr (Or.inr rfl)))
/-- the weight of a pair that was held so long -/
def wt (β : BK) : Nat → Nat
  | 0 => 1
  | d + 1 => if bk_w β (d + 1) = 0 then wt β d else bk_w β (d + 1)
theorem wt_le (h : bk_ok β) : ∀ d, 1 ≤ wt β d ∧ wt β d ≤ 3
  | 0 => by rw [wt]; omega
  | d + 1 => by
    have := wt_le h d
    have h4 := h.2.2.2.1 (d + 1)
    rw [wt]
    split <;> omega
theorem c_weightOf (B : cB S j β) {d : Nat} (hd : d < bk_n β) : fX0_weightOf j (nI d) S = some (nI (wt β d), S) := by
  have hn := B.1.2.1
  have hw := B.1.2.2.2.1
  obtain ⟨Z, e, h⟩ := lp_dn (fun n i s => fX0_weightOf_L2 j n (nI i) s) (fun i s => s = S ∧ wt β i = wt β d ∧ i < bk_n β) (fun r => (r = .inr S ∧ wt β d = 1) ∨ ∃ g, g < 8 ∧ r = .inl (nI g, S) ∧ wt β d = bk_w β g)
    (fun n s h => ⟨.inr s, by
      show fX0_weightOf_L2 j (n + 1) (nI 0) s = _
      rw [fX0_weightOf_L2, if_pos (by decide)], Or.inl ⟨by rw [h.1], h.2.1.symm.trans rfl⟩⟩)
    (fun n i s h => by
      obtain ⟨rfl, h, hi⟩ := h
      show (∃ r, fX0_weightOf_L2 j (n + 1) (nI (i + 1)) s = some r ∧ _) ∨ ∃ s', _ ∧ fX0_weightOf_L2 j (n + 1) (nI (i + 1)) s = fX0_weightOf_L2 j n (nI i) s'
      rw [fX0_weightOf_L2, if_neg (show ¬ nI (i + 1) < (1 : Int32) from nI_nlt (b := 1) (by omega) (by omega)), ob_2t (c_hasGap1 B (by omega) hi), if_neg ne0, ob_in_t (vp_in_nI (by omega) (by decide)), nI_clamp (by omega), B.2.2.2.2.1 _ (by omega), pk_m1]
      have w := hw (i + 1)
      by_cases q : bk_w β (i + 1) = 0
      · refine Or.inr ⟨s, ⟨rfl, ?_, by omega⟩, by rw [q, if_pos (show nI 0 = 0 from rfl)]⟩
        rw [wt, if_pos q] at h
        exact h
      · refine Or.inl ⟨.inl (nI (i + 1), s), by rw [if_neg (nI_ne0 (by omega) (by omega))], Or.inr ⟨i + 1, by omega, rfl, ?_⟩⟩
        rw [wt, if_neg q] at h
        exact h.symm)
    d 1000 S (by omega) ⟨rfl, rfl, hd⟩
  unfold fX0_weightOf
  have e : fX0_weightOf_L2 j 1000 (nI d) S = some Z := e
  rw [ob_1t e]
  rcases h with ⟨rfl, h⟩ | ⟨g, hg, rfl, h⟩
  · rw [h]
    rfl
  · show ob_in (nI g) 8 (some (st_a S (2 * j) (nI g).toNatClampNeg, S)) = _
    rw [ob_in_t (vp_in_nI hg (by decide)), nI_clamp (by omega), B.2.2.2.2.1 _ hg, h]
end CBK2
