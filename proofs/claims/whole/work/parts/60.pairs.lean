/-! Pairs of a book: how both sides list them. -/
theorem sa_e {S : RSt} {a i b k : Nat} {v : Int32} : st_a (st_sa S a i v) b k = if b = a ∧ k = i then v else st_a S b k := by
  by_cases e : b = a
  · subst e
    rw [st_a_eq]
    unfold upd
    by_cases c : k = i
    · rw [if_pos c, if_pos ⟨rfl, c⟩]
    · rw [if_neg c, if_neg (fun z => c z.2)]
  · rw [st_a_ne e, if_neg (fun z => e z.1)]
theorem sg_e {S : RSt} {a i b k : Nat} {v : Int64} : st_g (st_sg S a i v) b k = if b = a ∧ k = i then v else st_g S b k := by
  by_cases e : b = a
  · subst e
    rw [st_g_eq]
    unfold vp_updL
    by_cases c : k = i
    · rw [if_pos c, if_pos ⟨rfl, c⟩]
    · rw [if_neg c, if_neg (fun z => c z.2)]
  · rw [st_g_ne e, if_neg (fun z => e z.1)]
theorem sa_p {S : RSt} {a i b k : Nat} {v : Int32} (h : b = a) (h2 : k = i) : st_a (st_sa S a i v) b k = v := by rw [sa_e, if_pos ⟨h, h2⟩]
theorem sa_n {S : RSt} {a i b k : Nat} {v : Int32} (h : b ≠ a ∨ k ≠ i) : st_a (st_sa S a i v) b k = st_a S b k := by rw [sa_e, if_neg (by omega)]
theorem sg_p {S : RSt} {a i b k : Nat} {v : Int64} (h : b = a) (h2 : k = i) : st_g (st_sg S a i v) b k = v := by rw [sg_e, if_pos ⟨h, h2⟩]
theorem sg_n {S : RSt} {a i b k : Nat} {v : Int64} (h : b ≠ a ∨ k ≠ i) : st_g (st_sg S a i v) b k = st_g S b k := by rw [sg_e, if_neg (by omega)]
abbrev PF : Type := Nat → Nat × Nat × Nat
def pst (β : BK) (h m : Nat) (s : Nat × Nat × PF) : Nat × Nat × PF := if bk_v β (8 * h + m) = 0 then s else (m + 1, if s.1 = 0 then s.2 else (s.2.1 + 1, va_up s.2.2 s.2.1 (h, s.1 - 1, m)))
def pin (β : BK) (h : Nat) (q : Nat × PF) : Nat → Nat × Nat × PF
  | 0 => (0, q)
  | m + 1 => pst β h m (pin β h q m)
def pou (β : BK) : Nat → Nat × PF
  | 0 => (0, fun _ => (0, 0, 0))
  | h + 1 => (pin β h (pou β h) (bk_n β)).2
def pk (β : BK) : Nat := (pou β (bk_h β)).1
def pF (β : BK) : PF := (pou β (bk_h β)).2
theorem pin_8 {β : BK} (hb : bk_ok β) (h : Nat) (q : Nat × PF) : ∀ d, bk_n β + d ≤ 8 → pin β h q (bk_n β + d) = pin β h q (bk_n β)
  | 0, _ => rfl
  | d + 1, hd => by
    rw [← Nat.add_assoc, pin, pin_8 hb h q d (by omega)]
    unfold pst
    rw [if_pos]
    by_cases z : bk_v β (8 * h + (bk_n β + d)) = 0
    · exact z
    · have := hb.2.2.2.2.2.2 h (bk_n β + d) (by omega) z
      omega
theorem pin_k (β : BK) (h : Nat) (q : Nat × PF) : ∀ m, ((pin β h q m).1 = 0 ∧ bk_s β h m = 0 ∧ (pin β h q m).2.1 = q.1) ∨ ((pin β h q m).1 ≠ 0 ∧ bk_s β h m ≠ 0 ∧ (pin β h q m).2.1 + 1 = q.1 + bk_s β h m)
  | 0 => Or.inl ⟨rfl, rfl, rfl⟩
  | m + 1 => by
    have ih := pin_k β h q m
    have e : bk_s β h (m + 1) = bk_s β h m + if bk_v β (8 * h + m) = 0 then 0 else 1 := rfl
    rw [pin, e]
    generalize pin β h q m = s at *
    unfold pst
    by_cases z : bk_v β (8 * h + m) = 0
    · rw [if_pos z, if_pos z]
      exact ih
    · rw [if_neg z, if_neg z]
      right
      refine ⟨Nat.succ_ne_zero m, by omega, ?_⟩
      show (if s.1 = 0 then s.2 else (s.2.1 + 1, va_up s.2.2 s.2.1 (h, s.1 - 1, m))).1 + 1 = _
      rcases ih with ⟨h1, h2, h3⟩ | ⟨h1, h2, h3⟩
      · rw [if_pos h1]
        omega
      · rw [if_neg h1]
        show s.2.1 + 1 + 1 = _
        omega
theorem pou_k {β : BK} (hb : bk_ok β) : ∀ h, (pou β h).1 = 0 ∨ (pou β h).1 + 1 ≤ ct (bk_v β) (8 * h)
  | 0 => Or.inl rfl
  | h + 1 => by
    have ih := pou_k hb h
    have k := pin_k β h (pou β h) (bk_n β)
    rw [pou, ct_8, bk_s8 hb]
    omega
theorem pk_c {β : BK} (hb : bk_ok β) : pk β = 0 ∨ pk β + 1 ≤ bk_c β := by
  have := pou_k hb (bk_h β)
  rw [ct_h hb] at this
  exact this
/-- what holds of a pair -/
def pv (β : BK) (x : Nat × Nat × Nat) : Prop := x.1 < bk_h β ∧ x.2.1 < x.2.2 ∧ x.2.2 < bk_n β
theorem pin_v {β : BK} {h : Nat} (hh : h < bk_h β) {q : Nat × PF} (hq : ∀ i, i < q.1 → pv β (q.2 i)) : ∀ m, m ≤ bk_n β → (pin β h q m).1 ≤ m ∧ ∀ i, i < (pin β h q m).2.1 → pv β ((pin β h q m).2.2 i)
  | 0, _ => ⟨Nat.le_refl 0, hq⟩
  | m + 1, hm => by
    have ih := pin_v hh hq m (by omega)
    rw [pin]
    generalize pin β h q m = s at *
    unfold pst
    by_cases z : bk_v β (8 * h + m) = 0
    · rw [if_pos z]
      exact ⟨by omega, ih.2⟩
    · rw [if_neg z]
      refine ⟨Nat.le_refl _, ?_⟩
      show ∀ i, i < (if s.1 = 0 then s.2 else (s.2.1 + 1, va_up s.2.2 s.2.1 (h, s.1 - 1, m))).1 → pv β ((if s.1 = 0 then s.2 else (s.2.1 + 1, va_up s.2.2 s.2.1 (h, s.1 - 1, m))).2 i)
      by_cases z2 : s.1 = 0
      · rw [if_pos z2]
        exact ih.2
      · rw [if_neg z2]
        intro i hi
        have hi : i < s.2.1 + 1 := hi
        show pv β (va_up s.2.2 s.2.1 (h, s.1 - 1, m) i)
        by_cases e : i = s.2.1
        · subst e
          rw [va_up_self]
          have := ih.1
          exact ⟨hh, by show s.1 - 1 < m; omega, by show m < bk_n β; omega⟩
        · rw [va_up_ne _ _ e]
          exact ih.2 i (by omega)
theorem pou_v {β : BK} : ∀ h, h ≤ bk_h β → ∀ i, i < (pou β h).1 → pv β ((pou β h).2 i)
  | 0, _, i, hi => absurd hi (Nat.not_lt_zero i)
  | h + 1, hh, i, hi => (pin_v (β := β) (by omega) (pou_v h (by omega)) (bk_n β) (Nat.le_refl _)).2 i hi
theorem pF_v {β : BK} {i : Nat} (hi : i < pk β) : pv β (pF β i) := pou_v (bk_h β) (Nat.le_refl _) i hi
/-- rise and weight of a pair -/
def rs (β : BK) (x : Nat × Nat × Nat) : Int32 := (nI (bk_v β (8 * x.1 + x.2.2)) - 1) - (nI (bk_v β (8 * x.1 + x.2.1)) - 1)
def rw1 (β : BK) (x : Nat × Nat × Nat) : Nat := wt β (x.2.2 - x.2.1)
def cP (S : RSt) (j : Nat) (β : BK) (k : Nat) (F : PF) : Prop := st_i S (40 + 2 * j) = nI k ∧ ∀ i, i < k → st_a S (28 + 42 * j + i) 0 = nI (F i).1 ∧ st_a S (28 + 42 * j + i) 1 = nI (F i).2.1 ∧ st_a S (28 + 42 * j + i) 2 = nI (F i).2.2 ∧ st_a S (28 + 42 * j + i) 3 = rs β (F i) ∧ st_a S (28 + 42 * j + i) 4 = nI (rw1 β (F i))
def fP (j : Nat) : RSt → RSt → Prop := fr (fun k => k = 40 + 2 * j) no (fun a => 28 + 42 * j ≤ a ∧ a < 70 + 42 * j) no
theorem cB_fP {S S' : RSt} {j u : Nat} {β : BK} (hu : u < 13) (B : cB S u β) (f : fP j S S') : cB S' u β := cB_fr B f (by omega) (by omega) (by omega) (by omega) (by omega)
theorem clA : (0 : Int32).toNatClampNeg = 0 ∧ (1 : Int32).toNatClampNeg = 1 ∧ (2 : Int32).toNatClampNeg = 2 ∧ (3 : Int32).toNatClampNeg = 3 ∧ (4 : Int32).toNatClampNeg = 4 := by decide
theorem inA : vp_in (0 : Int32) 5 ∧ vp_in (1 : Int32) 5 ∧ vp_in (2 : Int32) 5 ∧ vp_in (3 : Int32) 5 ∧ vp_in (4 : Int32) 5 := by
  unfold vp_in
  decide
section PRC
variable {S : RSt} {j u : Nat} {β : BK}
theorem c_addPair (hu : u < 13) (B : cB S u β) {k : Nat} {F : PF} (P : cP S j β k F) (hk : k < 42) {h f t : Nat} (hp : pv β (h, f, t)) : ∃ S', fX1_addPair j u (nI h) (nI f) (nI t) S = some S' ∧ cP S' j β (k + 1) (va_up F k (h, f, t)) ∧ fP j S S' := by
  obtain ⟨hh, hft, ht⟩ := hp
  have hh : h < bk_h β := hh
  have hft : f < t := hft
  have ht : t < bk_n β := ht
  have n8 := B.1.2.1
  obtain ⟨c0, c1, c2, c3, c4⟩ := clA
  obtain ⟨i0, i1, i2, i3, i4⟩ := inA
  unfold fX1_addPair
  rw [P.1, if_pos (show nI k < (42 : Int32) from nI_lt (b := 42) hk (by decide)), ob_in_t (vp_in_nI hk (by decide)), ob_in_t i0, ob_in_t i1, ob_in_t i2, nI_clamp (by omega), c0, c1, c2, c3, c4]
  have f1 : fP j S (st_sa (st_sa (st_sa S (28 + 42 * j + k) 0 (nI h)) (28 + 42 * j + k) 1 (nI f)) (28 + 42 * j + k) 2 (nI t)) := fr_tr (fr_tr (fr_sa ⟨by omega, by omega⟩) (fr_sa ⟨by omega, by omega⟩)) (fr_sa ⟨by omega, by omega⟩)
  generalize hS1 : st_sa (st_sa (st_sa S (28 + 42 * j + k) 0 (nI h)) (28 + 42 * j + k) 1 (nI f)) (28 + 42 * j + k) 2 (nI t) = S1 at *
  have B1 := cB_fP hu B f1
  rw [ob_2t (c_levelAt1 B1 hh ht), ob_2t (c_levelAt1 B1 hh (by omega)), ob_in_t i3]
  have f2 : fP j S1 (st_sa S1 (28 + 42 * j + k) 3 (rs β (h, f, t))) := fr_sa ⟨by omega, by omega⟩
  have hsub : nI t - nI f = nI (t - f) := by
    have e := nI_add (t - f) f
    rw [show t - f + f = t by omega] at e
    rw [← e, Int32.add_sub_cancel]
  rw [hsub]
  show ∃ S', ob_2 (fX0_weightOf u (nI (t - f)) (st_sa S1 (28 + 42 * j + k) 3 (rs β (h, f, t)))) _ = some S' ∧ _
  rw [ob_2t (c_weightOf (cB_fP hu B1 f2) (show t - f < bk_n β by omega)), ob_in_t i4]
  refine ⟨_, rfl, ⟨?_, ?_⟩, fr_tr (fr_tr f1 f2) (fr_tr (fr_sa ⟨by omega, by omega⟩) (fr_si rfl))⟩
  · rw [st_i_eq, st_i_sa, st_i_sa, ← hS1, st_i_sa, st_i_sa, st_i_sa, P.1, nI_1]
  · intro i hi
    rw [st_a_si, ← hS1]
    by_cases e : i = k
    · subst e
      rw [va_up_self]
      refine ⟨?_, ?_, ?_, ?_, ?_⟩
      · rw [sa_n (by omega), sa_n (by omega), sa_n (by omega), sa_n (by omega), sa_p rfl rfl]
      · rw [sa_n (by omega), sa_n (by omega), sa_n (by omega), sa_p rfl rfl]
      · rw [sa_n (by omega), sa_n (by omega), sa_p rfl rfl]
      · rw [sa_n (by omega), sa_p rfl rfl]
      · rw [sa_p rfl rfl]
        rfl
    · rw [va_up_ne _ _ e]
      have := P.2 i (by omega)
      rw [st_a_ne (by omega), st_a_ne (by omega), st_a_ne (by omega), st_a_ne (by omega), st_a_ne (by omega)]
      exact this
theorem nI_lst {a : Nat} (h : a < 100) : nI a - 1 = -1 ↔ a = 0 := nI_m1 (by omega)
theorem c_listHome (hu : u < 13) (B : cB S u β) (e39 : st_i S (39 + 2 * j) = nI (bk_n β)) {h : Nat} (hh : h < bk_h β) {q : Nat × PF} (P : cP S j β q.1 q.2) (hq : ∀ i, i < q.1 → pv β (q.2 i)) (hk : q.1 + bk_s β h (bk_n β) ≤ 42) : ∃ S', fX1_listPairs_L20 j u 1000 (nI h) (-1) 0 S = some S' ∧ cP S' j β (pin β h q (bk_n β)).2.1 (pin β h q (bk_n β)).2.2 ∧ fP j S S' := by
  have n8 := B.1.2.1
  obtain ⟨r, e, h1, h2⟩ := lp_up (fun n i (s : Int32 × RSt) => fX1_listPairs_L20 j u n (nI h) s.1 (nI i) s.2) (fun i s => s.1 = nI (pin β h q i).1 - 1 ∧ cP s.2 j β (pin β h q i).2.1 (pin β h q i).2.2 ∧ fP j S s.2) (bk_n β) (fun r => cP r j β (pin β h q (bk_n β)).2.1 (pin β h q (bk_n β)).2.2 ∧ fP j S r)
    (fun n s hs => ⟨s.2, by
      show fX1_listPairs_L20 j u (n + 1) (nI h) s.1 (nI (bk_n β)) s.2 = some s.2
      rw [fX1_listPairs_L20, hs.2.2.1 _ (by omega), e39, if_pos (nI_le (Nat.le_refl _) (by omega))], hs.2.1, hs.2.2⟩)
    (fun n i s hi hs => Or.inr (by
      obtain ⟨x, s⟩ := s
      obtain ⟨h1, h2, h3⟩ := hs
      have h1 : x = nI (pin β h q i).1 - 1 := h1
      have h2 : cP s j β (pin β h q i).2.1 (pin β h q i).2.2 := h2
      have h3 : fP j S s := h3
      have Bs := cB_fP hu B h3
      show ∃ s' : Int32 × RSt, _ ∧ fX1_listPairs_L20 j u (n + 1) (nI h) x (nI i) s = fX1_listPairs_L20 j u n (nI h) s'.1 (nI (i + 1)) s'.2
      rw [fX1_listPairs_L20, h3.1 _ (by omega), e39, if_neg (nI_ge (b := bk_n β) hi (by omega)), ob_2t (c_levelAt1 Bs hh hi), nI_1, pin]
      have hv := pin_v hh hq i (by omega)
      have hkk := pin_k β h q i
      have hsm : bk_s β h i ≤ bk_s β h (bk_n β) := by
        have e2 := ct_add (fun b => bk_v β (8 * h + b)) i (bk_n β - i)
        rw [show i + (bk_n β - i) = bk_n β by omega] at e2
        unfold bk_s
        omega
      generalize pin β h q i = p at *
      unfold pst
      by_cases z : bk_v β (8 * h + i) = 0
      · rw [if_pos ((nI_m1 (c_v30 Bs _)).mpr z), if_pos z]
        exact ⟨(x, s), ⟨h1, h2, h3⟩, rfl⟩
      · rw [if_neg (fun w => z ((nI_m1 (c_v30 Bs _)).mp w)), if_neg z]
        by_cases z2 : p.1 = 0
        · rw [if_pos (h1.trans ((nI_lst (by omega)).mpr z2)), if_pos z2]
          refine ⟨(nI i, s), ⟨?_, h2, h3⟩, rfl⟩
          show nI i = nI (i + 1) - 1
          rw [nI_pred]
        · rw [if_neg (fun w => z2 ((nI_lst (by omega)).mp (h1.symm.trans w))), if_neg z2]
          have hx : x = nI (p.1 - 1) := by
            rw [h1, ← nI_pred (p.1 - 1), show p.1 - 1 + 1 = p.1 by omega]
          obtain ⟨S', e1, e2, e3⟩ := c_addPair hu Bs h2 (by omega) (h := h) (f := p.1 - 1) (t := i) ⟨hh, by show p.1 - 1 < i; omega, hi⟩
          rw [hx, ob_1t e1]
          refine ⟨(nI i, S'), ⟨?_, e2, fr_tr h3 e3⟩, rfl⟩
          show nI i = nI (i + 1) - 1
          rw [nI_pred]))
    (bk_n β) 0 1000 ((-1 : Int32), S) (by omega) (by omega) ⟨by show (-1 : Int32) = nI 0 - 1; decide, P, fr_rf⟩
  exact ⟨r, e, h1, h2⟩
theorem c_listPairs (hu : u < 13) (B : cB S u β) (hc : bk_c β ≤ 19) (e39 : st_i S (39 + 2 * j) = nI (bk_n β)) : ∃ S', fX1_listPairs j u S = some S' ∧ cP S' j β (pk β) (pF β) ∧ fP j S S' := by
  have h6 := B.1.2.2.1
  obtain ⟨r, e, h1, h2⟩ := lp_up (fun n i s => fX1_listPairs_L7 j u n (nI i) s) (fun i s => cP s j β (pou β i).1 (pou β i).2 ∧ fP j S s) (bk_h β) (fun r => cP r j β (pk β) (pF β) ∧ fP j S r)
    (fun n s hs => ⟨s, by
      show fX1_listPairs_L7 j u (n + 1) (nI (bk_h β)) s = some s
      rw [fX1_listPairs_L7, (cB_fP hu B hs.2).2.2.1, if_pos (nI_le (Nat.le_refl _) (by omega))], hs⟩)
    (fun n i s hi hs => Or.inr (by
      show ∃ s', _ ∧ fX1_listPairs_L7 j u (n + 1) (nI i) s = fX1_listPairs_L7 j u n (nI (i + 1)) s'
      have Bs := cB_fP hu B hs.2
      have hk := pou_k B.1 i
      have hct := ct_8 β i
      rw [bk_s8 B.1] at hct
      have hm := ct_add (bk_v β) (8 * (i + 1)) (48 - 8 * (i + 1))
      rw [show 8 * (i + 1) + (48 - 8 * (i + 1)) = 48 by omega] at hm
      have : ct (bk_v β) 48 ≤ 19 := hc
      obtain ⟨S', e1, e2, e3⟩ := c_listHome hu Bs ((hs.2.1 _ (by omega)).trans e39) hi hs.1 (pou_v i (by omega)) (by omega)
      rw [fX1_listPairs_L7, Bs.2.2.1, if_neg (nI_ge (b := bk_h β) hi (by omega)), ob_1t e1, nI_1]
      exact ⟨S', ⟨e2, fr_tr hs.2 e3⟩, rfl⟩))
    (bk_h β) 0 1000 (st_si S (40 + 2 * j) 0) (by omega) (by omega) ⟨⟨by rw [st_i_eq]; rfl, fun i hi => absurd hi (Nat.not_lt_zero i)⟩, fr_si rfl⟩
  unfold fX1_listPairs
  have e : fX1_listPairs_L7 j u 1000 (0 : Int32) (st_si S (40 + 2 * j) 0) = some r := e
  rw [ob_1t e]
  exact ⟨r, rfl, h1, h2⟩
end PRC
/-! The reference's pairs. -/
def mP (S : RSt) (β : BK) (k : Nat) (F : PF) : Prop := st_i S 13 = nI k ∧ ∀ i, i < k → st_a S 4 i = nI (F i).1 ∧ st_a S 5 i = nI (F i).2.1 ∧ st_a S 6 i = nI (F i).2.2 ∧ st_a S 7 i = rs β (F i) ∧ st_a S 8 i = nI (rw1 β (F i))
def gP : RSt → RSt → Prop := fr (fun k => k = 13) no (fun a => 4 ≤ a ∧ a < 9) no
theorem mB_gP {S S' : RSt} {β : BK} (B : mB S 1 0 β) (f : gP S S') : mB S' 1 0 β := mB_fr B f (by omega)
section PRM
variable {S : RSt} {β : BK}
theorem m_addPair (B : mB S 1 0 β) {k : Nat} {F : PF} (P : mP S β k F) {h f t : Nat} (hp : pv β (h, f, t)) (r : Int32) (hr : r = rs β (h, f, t)) : mP (st_si (st_sa (st_sa (st_sa (st_sa (st_sa S 4 k (nI h)) 5 k (nI f)) 6 k (nI t)) 7 k r) 8 k (nI (wt β (t - f)))) 13 (nI k + 1)) β (k + 1) (va_up F k (h, f, t)) ∧ gP S (st_si (st_sa (st_sa (st_sa (st_sa (st_sa S 4 k (nI h)) 5 k (nI f)) 6 k (nI t)) 7 k r) 8 k (nI (wt β (t - f)))) 13 (nI k + 1)) := by
  refine ⟨⟨by rw [st_i_eq, nI_1], fun i hi => ?_⟩, fr_tr (fr_tr (fr_tr (fr_tr (fr_tr (fr_sa ⟨by omega, by omega⟩) (fr_sa ⟨by omega, by omega⟩)) (fr_sa ⟨by omega, by omega⟩)) (fr_sa ⟨by omega, by omega⟩)) (fr_sa ⟨by omega, by omega⟩)) (fr_si rfl)⟩
  rw [st_a_si]
  by_cases e : i = k
  · subst e
    rw [va_up_self]
    refine ⟨?_, ?_, ?_, ?_, ?_⟩
    · rw [sa_n (by omega), sa_n (by omega), sa_n (by omega), sa_n (by omega), sa_p rfl rfl]
    · rw [sa_n (by omega), sa_n (by omega), sa_n (by omega), sa_p rfl rfl]
    · rw [sa_n (by omega), sa_n (by omega), sa_p rfl rfl]
    · rw [sa_n (by omega), sa_p rfl rfl, hr]
    · rw [sa_p rfl rfl]
      rfl
  · rw [va_up_ne _ _ e]
    have := P.2 i (by omega)
    refine ⟨?_, ?_, ?_, ?_, ?_⟩
    · rw [sa_n (by omega), sa_n (by omega), sa_n (by omega), sa_n (by omega), sa_n (by omega)]
      exact this.1
    · rw [sa_n (by omega), sa_n (by omega), sa_n (by omega), sa_n (by omega), sa_n (by omega)]
      exact this.2.1
    · rw [sa_n (by omega), sa_n (by omega), sa_n (by omega), sa_n (by omega), sa_n (by omega)]
      exact this.2.2.1
    · rw [sa_n (by omega), sa_n (by omega), sa_n (by omega), sa_n (by omega), sa_n (by omega)]
      exact this.2.2.2.1
    · rw [sa_n (by omega), sa_n (by omega), sa_n (by omega), sa_n (by omega), sa_n (by omega)]
      exact this.2.2.2.2
theorem m_listHome (B : mB S 1 0 β) {h : Nat} (hh : h < bk_h β) {x1 : Int32} (hx1 : ¬ nI h = x1) {q : Nat × PF} (P : mP S β q.1 q.2) (hq : ∀ i, i < q.1 → pv β (q.2 i)) (hk : q.1 + bk_s β h (bk_n β) ≤ 48) : ∃ S', fX5_laysPairs_L22 1000 x1 (nI h) (-1) 0 S = some S' ∧ mP S' β (pin β h q (bk_n β)).2.1 (pin β h q (bk_n β)).2.2 ∧ gP S S' := by
  have n8 := B.1.2.1
  have h6 := B.1.2.2.1
  obtain ⟨r, e, h1, h2⟩ := lp_up (fun n i (s : Int32 × RSt) => fX5_laysPairs_L22 n x1 (nI h) s.1 (nI i) s.2) (fun i s => s.1 = nI (pin β h q i).1 - 1 ∧ mP s.2 β (pin β h q i).2.1 (pin β h q i).2.2 ∧ gP S s.2 ∧ (pin β h q i).1 ≤ i) 8 (fun r => mP r β (pin β h q 8).2.1 (pin β h q 8).2.2 ∧ gP S r)
    (fun n s hs => ⟨s.2, by
      show fX5_laysPairs_L22 (n + 1) x1 (nI h) s.1 (nI 8) s.2 = some s.2
      rw [fX5_laysPairs_L22, if_pos (show (8 : Int32) ≤ nI 8 by decide)], hs.2.1, hs.2.2.1⟩)
    (fun n i s hi hs => Or.inr (by
      obtain ⟨x, s⟩ := s
      obtain ⟨h1, h2, h3, h4⟩ := hs
      have h1 : x = nI (pin β h q i).1 - 1 := h1
      have h2 : mP s β (pin β h q i).2.1 (pin β h q i).2.2 := h2
      have h3 : gP S s := h3
      have Bs := mB_gP B h3
      show ∃ s' : Int32 × RSt, _ ∧ fX5_laysPairs_L22 (n + 1) x1 (nI h) x (nI i) s = fX5_laysPairs_L22 n x1 (nI h) s'.1 (nI (i + 1)) s'.2
      rw [fX5_laysPairs_L22, if_neg (show ¬ (8 : Int32) ≤ nI i from nI_ge (b := 8) hi (by decide)), if_neg hx1, nI_1, pin]
      have hkk := pin_k β h q i
      have hsm : bk_s β h i ≤ bk_s β h (bk_n β) := by
        rw [← bk_s8 B.1]
        have e2 := ct_add (fun b => bk_v β (8 * h + b)) i (8 - i)
        rw [show i + (8 - i) = 8 by omega] at e2
        unfold bk_s
        omega
      have hns : bk_v β (8 * h + i) ≠ 0 → bk_s β h i + 1 ≤ bk_s β h (bk_n β) := fun z => by
        rw [← bk_s8 B.1]
        have e2 := ct_add (fun b => bk_v β (8 * h + b)) (i + 1) (8 - (i + 1))
        rw [show i + 1 + (8 - (i + 1)) = 8 by omega] at e2
        have e3 : ct (fun b => bk_v β (8 * h + b)) (i + 1) = ct (fun b => bk_v β (8 * h + b)) i + 1 := by
          rw [ct, if_neg z]
        unfold bk_s
        omega
      generalize pin β h q i = p at *
      unfold pst
      by_cases z : bk_v β (8 * h + i) = 0
      · rw [ob_2t (m_isSold0 Bs (by omega) hi z), if_pos rfl, if_pos z]
        exact ⟨(x, s), ⟨h1, h2, h3, by omega⟩, rfl⟩
      · have hin := B.1.2.2.2.2.2.2 h i hi z
        have := hns z
        rw [ob_2t (m_isSold1 Bs (by omega) hi z), if_neg ne0, if_neg z]
        by_cases z2 : p.1 = 0
        · rw [if_pos (h1.trans ((nI_lst (by omega)).mpr z2)), if_pos z2]
          refine ⟨(nI i, s), ⟨?_, h2, h3, Nat.le_refl _⟩, rfl⟩
          show nI i = nI (i + 1) - 1
          rw [nI_pred]
        · rw [if_neg (fun w => z2 ((nI_lst (by omega)).mp (h1.symm.trans w))), if_neg z2]
          have hx : x = nI (p.1 - 1) := by
            rw [h1, ← nI_pred (p.1 - 1), show p.1 - 1 + 1 = p.1 by omega]
          have hsub : nI i - nI (p.1 - 1) = nI (i - (p.1 - 1)) := by
            have e := nI_add (i - (p.1 - 1)) (p.1 - 1)
            rw [show i - (p.1 - 1) + (p.1 - 1) = i by omega] at e
            rw [← e, Int32.add_sub_cancel]
          obtain ⟨g1, g2⟩ := m_addPair Bs h2 (h := h) (f := p.1 - 1) (t := i) ⟨hh, by show p.1 - 1 < i; omega, hin.2⟩ _ rfl
          have k48 : p.2.1 < 48 := by omega
          simp only [st_i_sa, h2.1]
          rw [hx, ob_in_t (vp_in_nI k48 (by decide)), ob_in_t (vp_in_nI k48 (by decide)), ob_in_t (vp_in_nI k48 (by decide)), nI_clamp (by omega)]
          have B1 : mB (st_sa (st_sa (st_sa s 4 p.2.1 (nI h)) 5 p.2.1 (nI (p.1 - 1))) 6 p.2.1 (nI i)) 1 0 β := mB_gP Bs (fr_tr (fr_tr (fr_sa ⟨by omega, by omega⟩) (fr_sa ⟨by omega, by omega⟩)) (fr_sa ⟨by omega, by omega⟩))
          rw [ob_2t (m_levelOf B1 (by omega) hi), ob_2t (m_levelOf B1 (by omega) (show p.1 - 1 < 8 by omega)), ob_in_t (vp_in_nI k48 (by decide)), hsub]
          have B2 := mB_gP B1 (S' := st_sa (st_sa (st_sa (st_sa s 4 p.2.1 (nI h)) 5 p.2.1 (nI (p.1 - 1))) 6 p.2.1 (nI i)) 7 p.2.1 (rs β (h, p.1 - 1, i))) (fr_sa ⟨by omega, by omega⟩)
          refine ⟨(nI i, _), ⟨?_, g1, fr_tr h3 g2, Nat.le_refl _⟩, ?_⟩
          · show nI i = nI (i + 1) - 1
            rw [nI_pred]
          · show ob_2 (fX5_weightOf (nI (i - (p.1 - 1))) (st_sa (st_sa (st_sa (st_sa s 4 p.2.1 (nI h)) 5 p.2.1 (nI (p.1 - 1))) 6 p.2.1 (nI i)) 7 p.2.1 (rs β (h, p.1 - 1, i)))) _ = _
            rw [ob_2t (m_weightOf B2 (by omega))]
            simp only [st_i_sa, h2.1]
            rw [ob_in_t (vp_in_nI k48 (by decide)), nI_clamp (by omega)]
            rfl))
    8 0 1000 ((-1 : Int32), S) (by omega) (by omega) ⟨by show (-1 : Int32) = nI 0 - 1; decide, P, fr_rf, Nat.le_refl 0⟩
  have e8 := pin_8 B.1 h q (8 - bk_n β) (by omega)
  rw [show bk_n β + (8 - bk_n β) = 8 by omega] at e8
  rw [e8] at h1
  exact ⟨r, e, h1, h2⟩
/-- the home that is left out: nothing -/
theorem m_listBut {h : Nat} : fX5_laysPairs_L22 1000 (nI h) (nI h) (-1) 0 S = some S := by
  rw [show (1000 : Nat) = 999 + 1 from rfl, fX5_laysPairs_L22, if_neg (by decide), if_pos rfl]
theorem bk_clr_ok (hb : bk_ok β) (b n : Nat) : bk_ok (bk_clr β b n) := by
  have hv : ∀ k, bk_v (bk_clr β b n) k = if 8 * b ≤ k ∧ k < 8 * b + n then 0 else bk_v β k := fun k => rfl
  refine ⟨hb.1, hb.2.1, hb.2.2.1, hb.2.2.2.1, hb.2.2.2.2.1, fun k => ?_, fun x y hy z => ?_⟩
  · have := hb.2.2.2.2.2.1 k
    rw [hv]
    split <;> omega
  · rw [hv] at z
    by_cases c : 8 * b ≤ 8 * x + y ∧ 8 * x + y < 8 * b + n
    · rw [if_pos c] at z
      exact absurd rfl z
    · rw [if_neg c] at z
      exact hb.2.2.2.2.2.2 x y hy z
theorem wt_clr (β : BK) (b n : Nat) : ∀ d, wt (bk_clr β b n) d = wt β d
  | 0 => rfl
  | d + 1 => by
    rw [wt, wt, wt_clr β b n d]
    rfl
theorem v_clr {b n h m : Nat} (hn : n ≤ 8) (hne : h ≠ b) (hm : m < 8) : bk_v (bk_clr β b n) (8 * h + m) = bk_v β (8 * h + m) := by
  show (if 8 * b ≤ 8 * h + m ∧ 8 * h + m < 8 * b + n then 0 else bk_v β (8 * h + m)) = _
  rw [if_neg (by omega)]
theorem pin_clr {b n h : Nat} (hn : n ≤ 8) (hne : h ≠ b) (q : Nat × PF) : ∀ m, m ≤ 8 → pin (bk_clr β b n) h q m = pin β h q m
  | 0, _ => rfl
  | m + 1, hm => by
    rw [pin, pin, pin_clr hn hne q m (by omega)]
    unfold pst
    rw [v_clr hn hne (by omega)]
theorem pin_clr0 {b n : Nat} (q : Nat × PF) : ∀ m, m ≤ n → pin (bk_clr β b n) b q m = (0, q)
  | 0, _ => rfl
  | m + 1, hm => by
    rw [pin, pin_clr0 q m (by omega)]
    unfold pst
    rw [if_pos]
    show (if 8 * b ≤ 8 * b + m ∧ 8 * b + m < 8 * b + n then 0 else bk_v β (8 * b + m)) = 0
    rw [if_pos (by omega)]
theorem pin_h {b h : Nat} (hne : h ≠ b) {q : Nat × PF} (hq : ∀ i, i < q.1 → (q.2 i).1 ≠ b) : ∀ m i, i < (pin β h q m).2.1 → ((pin β h q m).2.2 i).1 ≠ b
  | 0 => hq
  | m + 1 => by
    have ih := pin_h hne hq m
    rw [pin]
    generalize pin β h q m = s at *
    unfold pst
    by_cases z : bk_v β (8 * h + m) = 0
    · rw [if_pos z]
      exact ih
    · rw [if_neg z]
      show ∀ i, i < (if s.1 = 0 then s.2 else (s.2.1 + 1, va_up s.2.2 s.2.1 (h, s.1 - 1, m))).1 → ((if s.1 = 0 then s.2 else (s.2.1 + 1, va_up s.2.2 s.2.1 (h, s.1 - 1, m))).2 i).1 ≠ b
      by_cases z2 : s.1 = 0
      · rw [if_pos z2]
        exact ih
      · rw [if_neg z2]
        intro i hi
        have hi : i < s.2.1 + 1 := hi
        show (va_up s.2.2 s.2.1 (h, s.1 - 1, m) i).1 ≠ b
        by_cases e : i = s.2.1
        · subst e
          rw [va_up_self]
          exact hne
        · rw [va_up_ne _ _ e]
          exact ih i (by omega)
theorem pou_h {b : Nat} : ∀ h i, i < (pou (bk_clr β b (bk_n β)) h).1 → ((pou (bk_clr β b (bk_n β)) h).2 i).1 ≠ b
  | 0, i, hi => absurd hi (Nat.not_lt_zero i)
  | h + 1, i, hi => by
    have ih := pou_h (b := b) h
    rw [pou] at hi ⊢
    by_cases e : h = b
    · subst e
      rw [show bk_n (bk_clr β h (bk_n β)) = bk_n β from rfl, pin_clr0 _ _ (Nat.le_refl _)] at hi ⊢
      exact ih i hi
    · exact pin_h e ih _ i hi
theorem ct_mono {v u : Nat → Nat} : ∀ {k : Nat}, (∀ i, i < k → v i = 0 ∨ v i = u i) → ct v k ≤ ct u k
  | 0, _ => Nat.le_refl 0
  | k + 1, h => by
    have := ct_mono (k := k) (fun i hi => h i (by omega))
    have h2 := h k (by omega)
    rw [ct, ct]
    by_cases z : v k = 0
    · rw [if_pos z]
      omega
    · rw [h2.resolve_left z]
      omega
theorem bk_c_clr (b n : Nat) : bk_c (bk_clr β b n) ≤ bk_c β := ct_mono (fun i _ => by
  show (if 8 * b ≤ i ∧ i < 8 * b + n then 0 else bk_v β i) = 0 ∨ (if 8 * b ≤ i ∧ i < 8 * b + n then 0 else bk_v β i) = bk_v β i
  by_cases c : 8 * b ≤ i ∧ i < 8 * b + n
  · rw [if_pos c]
    exact Or.inl rfl
  · rw [if_neg c]
    exact Or.inr rfl)
theorem m_laysPairs (B : mB S 1 0 β) (hc : bk_c β ≤ 19) : ∃ S', fX5_laysPairs (-1) S = some S' ∧ mP S' β (pk β) (pF β) ∧ gP S S' := by
  have h6 := B.1.2.2.1
  obtain ⟨r, e, h1, h2⟩ := lp_up (fun n i s => fX5_laysPairs_L7 n (-1) (nI i) s) (fun i s => mP s β (pou β i).1 (pou β i).2 ∧ gP S s) (bk_h β) (fun r => mP r β (pk β) (pF β) ∧ gP S r)
    (fun n s hs => ⟨s, by
      show fX5_laysPairs_L7 (n + 1) (-1) (nI (bk_h β)) s = some s
      rw [fX5_laysPairs_L7, ob_in_t (in1 (by decide)), cl1, m_n1 (mB_gP B hs.2), if_pos (nI_le (Nat.le_refl _) (by omega))], hs⟩)
    (fun n i s hi hs => Or.inr (by
      show ∃ s', _ ∧ fX5_laysPairs_L7 (n + 1) (-1) (nI i) s = fX5_laysPairs_L7 n (-1) (nI (i + 1)) s'
      have Bs := mB_gP B hs.2
      have hk := pou_k B.1 i
      have hct := ct_8 β i
      rw [bk_s8 B.1] at hct
      have hm := ct_add (bk_v β) (8 * (i + 1)) (48 - 8 * (i + 1))
      rw [show 8 * (i + 1) + (48 - 8 * (i + 1)) = 48 by omega] at hm
      have : ct (bk_v β) 48 ≤ 19 := hc
      obtain ⟨S', e1, e2, e3⟩ := m_listHome Bs hi (x1 := -1) (fun z => by
        have := nI_pos' (n := i) (by omega)
        rw [z] at this
        exact absurd this (by decide)) hs.1 (pou_v i (by omega)) (by omega)
      rw [fX5_laysPairs_L7, ob_in_t (in1 (by decide)), cl1, m_n1 Bs, if_neg (nI_ge (b := bk_h β) hi (by omega)), ob_1t e1, nI_1]
      exact ⟨S', ⟨e2, fr_tr hs.2 e3⟩, rfl⟩))
    (bk_h β) 0 1000 (st_si S 13 0) (by omega) (by omega) ⟨⟨by rw [st_i_eq]; rfl, fun i hi => absurd hi (Nat.not_lt_zero i)⟩, fr_si rfl⟩
  unfold fX5_laysPairs
  have e : fX5_laysPairs_L7 1000 (-1) (0 : Int32) (st_si S 13 0) = some r := e
  rw [ob_1t e]
  exact ⟨r, rfl, h1, h2⟩
theorem m_laysBut (B : mB S 1 0 β) (hc : bk_c β ≤ 19) {b : Nat} (hb : b < bk_h β) : ∃ S', fX5_laysPairs (nI b) S = some S' ∧ mP S' (bk_clr β b (bk_n β)) (pk (bk_clr β b (bk_n β))) (pF (bk_clr β b (bk_n β))) ∧ gP S S' := by
  have h6 := B.1.2.2.1
  have n8 := B.1.2.1
  have ok' := bk_clr_ok B.1 b (bk_n β)
  have hc' := bk_c_clr (β := β) b (bk_n β)
  have hn' : bk_n (bk_clr β b (bk_n β)) = bk_n β := rfl
  have hh' : bk_h (bk_clr β b (bk_n β)) = bk_h β := rfl
  have hpv : ∀ i, i ≤ bk_h β → ∀ k, k < (pou (bk_clr β b (bk_n β)) i).1 → pv β ((pou (bk_clr β b (bk_n β)) i).2 k) := fun i hi k hk => pou_v (β := bk_clr β b (bk_n β)) i hi k hk
  obtain ⟨r, e, h1, h2⟩ := lp_up (fun n i s => fX5_laysPairs_L7 n (nI b) (nI i) s) (fun i s => mP s β (pou (bk_clr β b (bk_n β)) i).1 (pou (bk_clr β b (bk_n β)) i).2 ∧ gP S s) (bk_h β) (fun r => mP r β (pk (bk_clr β b (bk_n β))) (pF (bk_clr β b (bk_n β))) ∧ gP S r)
    (fun n s hs => ⟨s, by
      show fX5_laysPairs_L7 (n + 1) (nI b) (nI (bk_h β)) s = some s
      rw [fX5_laysPairs_L7, ob_in_t (in1 (by decide)), cl1, m_n1 (mB_gP B hs.2), if_pos (nI_le (Nat.le_refl _) (by omega))], hs⟩)
    (fun n i s hi hs => Or.inr (by
      show ∃ s', _ ∧ fX5_laysPairs_L7 (n + 1) (nI b) (nI i) s = fX5_laysPairs_L7 n (nI b) (nI (i + 1)) s'
      have Bs := mB_gP B hs.2
      rw [fX5_laysPairs_L7, ob_in_t (in1 (by decide)), cl1, m_n1 Bs, if_neg (nI_ge (b := bk_h β) hi (by omega)), nI_1, pou, hn']
      by_cases eb : i = b
      · subst eb
        rw [ob_1t m_listBut, pin_clr0 _ _ (Nat.le_refl _)]
        exact ⟨s, hs, rfl⟩
      · have hk := pou_k ok' i
        have hct := ct_8 (bk_clr β b (bk_n β)) i
        rw [bk_s8 ok', hn'] at hct
        have hm := ct_add (bk_v (bk_clr β b (bk_n β))) (8 * (i + 1)) (48 - 8 * (i + 1))
        rw [show 8 * (i + 1) + (48 - 8 * (i + 1)) = 48 by omega] at hm
        have : ct (bk_v (bk_clr β b (bk_n β))) 48 ≤ ct (bk_v β) 48 := hc'
        have : ct (bk_v β) 48 ≤ 19 := hc
        have hse : bk_s (bk_clr β b (bk_n β)) i (bk_n β) = bk_s β i (bk_n β) := ct_congr (fun m hm => v_clr n8 eb (by omega))
        obtain ⟨S', e1, e2, e3⟩ := m_listHome Bs hi (x1 := nI b) (fun z => eb ((nI_eq (by omega) (by omega)).mp z)) hs.1 (hpv i (by omega)) (by omega)
        rw [ob_1t e1, pin_clr n8 eb _ _ n8]
        exact ⟨S', ⟨e2, fr_tr hs.2 e3⟩, rfl⟩))
    (bk_h β) 0 1000 (st_si S 13 0) (by omega) (by omega) ⟨⟨by rw [st_i_eq]; rfl, fun i hi => absurd hi (Nat.not_lt_zero i)⟩, fr_si rfl⟩
  unfold fX5_laysPairs
  have e : fX5_laysPairs_L7 1000 (nI b) (0 : Int32) (st_si S 13 0) = some r := e
  rw [ob_1t e]
  refine ⟨r, rfl, ⟨h1.1, fun i hi => ?_⟩, h2⟩
  have q := h1.2 i hi
  have v := pF_v (β := bk_clr β b (bk_n β)) hi
  have nb : (pF (bk_clr β b (bk_n β)) i).1 ≠ b := pou_h (β := β) (b := b) (bk_h β) i hi
  have v1 := v.2.1
  have v2 := v.2.2
  refine ⟨q.1, q.2.1, q.2.2.1, ?_, ?_⟩
  · rw [q.2.2.2.1]
    unfold rs
    rw [v_clr n8 nb (by omega), v_clr n8 nb (by omega)]
  · rw [q.2.2.2.2]
    unfold rw1
    rw [wt_clr]
end PRM
