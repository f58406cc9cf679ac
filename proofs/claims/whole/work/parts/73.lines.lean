/-! Lines of a text. -/
section LIN
variable {S0 S T0 T : RSt} {y : Nat → Nat} {L : Nat} {β : BK} {d ln p x : Nat}
theorem m_write2 {c : Nat} (B : mB T c 0 β) {a b v : Nat} (ha : a < bk_h β) (hb : b < bk_n β) (hx : v ≤ 1000) : mB (st_sa T c (10 + (8 * a + b)) (nI v)) c 0 (bk_set β (8 * a + b) v) := by
  have h1 := B.1.2.2.1
  have h2 := B.1.2.1
  refine ⟨bk_set_ok B.1 ha hb hx, ?_, ?_, fun g hg => ?_, fun k hk => ?_⟩
  · rw [sa_n (Or.inr (by omega))]
    exact B.2.1
  · rw [sa_n (Or.inr (by omega))]
    exact B.2.2.1
  · rw [sa_n (Or.inr (by omega))]
    exact B.2.2.2.1 g hg
  · show _ = nI (va_up (bk_v β) (8 * a + b) v k)
    by_cases e : k = 8 * a + b
    · rw [sa_p rfl (by omega), e, va_up_self]
    · rw [sa_n (Or.inr (by omega)), va_up_ne _ _ e]
      exact B.2.2.2.2 k hk
theorem m_weigh2 {c : Nat} (B : mB T c 0 β) {g v : Nat} (hg : 0 < g) (hg2 : g < bk_n β) (hx : v ≤ 3) : mB (st_sa T c (2 + g) (nI v)) c 0 (bk_weigh β g v) := by
  have h2 := B.1.2.1
  refine ⟨bk_weigh_ok B.1 hg hg2 hx, ?_, ?_, fun k hk => ?_, fun k hk => ?_⟩
  · rw [sa_n (Or.inr (by omega))]
    exact B.2.1
  · rw [sa_n (Or.inr (by omega))]
    exact B.2.2.1
  · show _ = nI (va_up (bk_w β) g v k)
    by_cases e : k = g
    · rw [sa_p rfl (by omega), e, va_up_self]
    · rw [sa_n (Or.inr (by omega)), va_up_ne _ _ e]
      exact B.2.2.2.1 k hk
  · rw [sa_n (Or.inr (by omega))]
    exact B.2.2.2.2 k hk
theorem m_home2 {c : Nat} (B : mB T c 0 β) (hh : bk_h β < 6) : mB (st_sa T c 1 (nI (bk_h β + 1))) c 0 (bk_home β) := by
  refine ⟨bk_home_ok B.1 hh, ?_, ?_, fun k hk => ?_, fun k hk => ?_⟩
  · rw [sa_n (Or.inr (by omega))]
    exact B.2.1
  · rw [sa_p rfl rfl]
    rfl
  · rw [sa_n (Or.inr (by omega))]
    exact B.2.2.2.1 k hk
  · rw [sa_n (Or.inr (by omega))]
    exact B.2.2.2.2 k hk
theorem PM_row {β' : BK} {k : Nat} {v : Int32} (M : PM T0 T y L β ln p) (B : mB (st_sa T 2 k v) 2 0 β') (hc : bk_c β' = bk_c β) : PM T0 (st_sa T 2 k v) y L β' ln p := by
  obtain ⟨h0, h1, h2, h3, h4, h5, h6⟩ := M
  have f : fr no no (fun a => a = 2) no T (st_sa T 2 k v) := fr_sa rfl
  refine ⟨h0, tp2_fr h1 f (fun z => z) (by decide), B, by rw [hc]; exact h3, h4, ?_, fr_tr h6 (fr_mo f (fun _ z => z.elim) (fun _ z => z.elim) (fun _ z => z) (fun _ z => z))⟩
  obtain ⟨k1, k2, k3, k4, k5, k6, k7, k8⟩ := h5
  refine ⟨k1, k2, k3, k4, k5, k6, k7, fun w hw => ?_⟩
  have q := k8 w hw
  unfold fX5_isWord at q ⊢
  show (if st_i T 5 = 2 then (if lg_cmp (st_j T 0) (lN (wh w)) = 0 then some ((1 : Int32), st_sa T 2 k v) else some ((0 : Int32), st_sa T 2 k v)) else some ((0 : Int32), st_sa T 2 k v)) = _
  split at q
  · rw [if_pos (by assumption)]
    split at q
    · rw [if_pos (by assumption)]
      have := congrArg (Option.map Prod.fst) q
      have : some (1 : Int32) = some (if (tkD y L p).1 = 4 + w then 1 else 0) := this
      rw [← Option.some.inj this]
    · rw [if_neg (by assumption)]
      have := congrArg (Option.map Prod.fst) q
      have : some (0 : Int32) = some (if (tkD y L p).1 = 4 + w then 1 else 0) := this
      rw [← Option.some.inj this]
  · rw [if_neg (by assumption)]
    have := congrArg (Option.map Prod.fst) q
    have : some (0 : Int32) = some (if (tkD y L p).1 = 4 + w then 1 else 0) := this
    rw [← Option.some.inj this]
/-- a fault of the reference at the token in hand -/
def MB (T0 : RSt) (y : Nat → Nat) (L p f : Nat) (o : Option (Int32 × RSt)) : Prop := ∃ T', o = some (0, T') ∧ st_i T' 7 = nI f ∧ st_i T' 8 = nI (tkD y L p).2.1 ∧ gX T0 T'
theorem PM_bad (M : PM T0 T y L β ln p) {f : Nat} (hf : f = 1 ∨ (tkD y L p).1 ≠ 0 ∧ (tkD y L p).1 ≠ 1) : MB T0 y L p f (ob_2 (fX5_bad (nI f) T) fun r S => some (r, S)) := by
  have K := M.2.2.2.2.2.1
  obtain ⟨T', b1, b2, b3, b4⟩ := m_bad (w := f) _ K M.2.2.2.2.2.2 (hf.imp id (fun z w => by have := K.2.2.2.2.2.1 w; omega))
  rw [ob_2t b1]
  exact ⟨T', rfl, b2, b3, b4⟩
theorem m_takes (M : PM T0 T y L β ln p) {lo hi : Nat} (hhi : hi ≤ 1000) (hlo : lo ≤ 1000) : ((tkD y L p).1 ≠ 2 → MB T0 y L p 1 (fX5_takes (nI lo) (nI hi) T)) ∧ ((tkD y L p).1 = 2 → ¬ (lo ≤ (tkD y L p).2.2.2 ∧ (tkD y L p).2.2.2 ≤ hi) → MB T0 y L p 2 (fX5_takes (nI lo) (nI hi) T)) ∧ ((tkD y L p).1 = 2 → (lo ≤ (tkD y L p).2.2.2 ∧ (tkD y L p).2.2.2 ≤ hi) → ∃ T', fX5_takes (nI lo) (nI hi) T = some (1, T') ∧ PM T0 T' y L β ln (tkD y L p).2.2.1 ∧ st_i T' 10 = nI (tkD y L p).2.2.2) := by
  have K := M.2.2.2.2.2.1
  have v9 := (tk_b (y := y) M.1).2.2.2.2.2.1
  refine ⟨fun h => ?_, fun h h2 => ?_, fun h h2 => ?_⟩
  · unfold fX5_takes
    rw [if_neg (fun z => h (K.2.2.1.mp z))]
    exact PM_bad M (Or.inl rfl)
  · have := v9 h
    unfold fX5_takes
    rw [if_pos (K.2.2.1.mpr h), K.2.2.2.2.2.2.1 h]
    have e : fX5_isIn (nI (tkD y L p).2.2.2) (nI lo) (nI hi) T = some (0, T) := by
      unfold fX5_isIn
      by_cases c : (tkD y L p).2.2.2 < lo
      · rw [if_pos (nI_lt c (by omega))]
      · rw [if_neg (nI_nlt (by omega) (by omega)), if_pos (nI_lt (by omega) (by omega))]
    rw [ob_2t e, if_pos rfl]
    exact PM_bad M (Or.inr (by omega))
  · have := v9 h
    unfold fX5_takes
    have e : fX5_isIn (nI (tkD y L p).2.2.2) (nI lo) (nI hi) T = some (1, T) := by
      unfold fX5_isIn
      rw [if_neg (nI_nlt (by omega) (by omega)), if_neg (nI_nlt (by omega) (by omega))]
    rw [if_pos (K.2.2.1.mpr h), K.2.2.2.2.2.2.1 h, ob_2t e, if_neg ne0, K.2.2.2.2.2.2.1 h]
    obtain ⟨h0, h1, h2', h3, h4, h5, h6⟩ := M
    have hp := (tk_b (y := y) h0).2.2.1
    have f10 : fr (fun k => k = 10) no no no T (st_si T 10 (nI (tkD y L p).2.2.2)) := fr_si rfl
    obtain ⟨T', e1, k1, f1⟩ := m_go (tp2_fr h1 f10 (by decide) (fun z => z)) hp (by rw [st_i_ne (by decide)]; exact h5.1)
    rw [ob_1t e1]
    have F := fr_tr (fr_mo f10 (fun _ z => Or.inl z) (fun _ z => z.elim) (fun _ z => z) (fun _ z => z)) (fr_mo (I' := fun k => k = 10 ∨ (3 ≤ k ∧ k < 7)) (J' := fun k => k = 0) f1 (fun _ z => Or.inr z) (fun _ z => z) (fun _ z => z) (fun _ z => z))
    exact ⟨T', rfl, ⟨hp, tp2_fr h1 F (by omega) (fun z => z), mB_fr h2' F (fun z => z), by rw [F.1 _ (by omega)]; exact h3, by rw [F.1 _ (by omega)]; exact h4, k1, fr_tr h6 (fr_mo F (fun _ z => by omega) (fun _ z => z) (fun _ z => z.elim) (fun _ z => z))⟩, by rw [f1.1 10 (by omega), st_i_eq]⟩
theorem NUM_bad (P : PC S0 S y L β d ln p x) (hd : 1 ≤ d ∧ d ≤ 5) (hk : (tkD y L p).1 ≠ 2) {o2 : Option (Int32 × RSt)} (hm : MB T0 y L p 1 o2) : BJ S0 T0 (CR x S) o2 := by
  obtain ⟨S1, Q, _, hCR⟩ := C_it P
  refine PS_bad hCR Q (f := 1) ?_ (by decide) (by decide) hm
  rw [take_d Q (by omega) (by omega)]
  by_cases c : (tkD y L p).1 = 0
  · rw [if_pos c]
    rfl
  · rw [if_neg c, if_neg (by omega), if_neg hk]
    rfl
theorem NUM_ok (P : PC S0 S y L β d ln p x) (hd : 1 ≤ d ∧ d ≤ 5) (hk : (tkD y L p).1 = 2) : ∃ S1, PS S0 S1 y L β d ln p x ∧ st_i S1 53 = st_i S 53 ∧ st_i S1 51 = nI (tkD y L p).2.2.2 ∧ ∀ r S2, fX3_takeNumber S1 = some (r, S2) → fX3_take S1 = some (r, S2) ∧ CR x S = CR (x + 1) (st_si S2 46 r) := by
  obtain ⟨S1, Q, e53, hCR⟩ := C_it P
  refine ⟨S1, Q, e53, Q.2.2.2.2.2.2.2.2.2.2.1.2.2.2 hk, fun r S2 e => ?_⟩
  have t : fX3_take S1 = some (r, S2) := by
    rw [take_d Q (by omega) (by omega), if_neg (by omega), if_neg (by omega), if_pos hk, ob_2t e]
  exact ⟨t, hCR _ _ t⟩
theorem NUM_b2 (P : PC S0 S y L β d ln p x) (hd : 1 ≤ d ∧ d ≤ 5) (hk : (tkD y L p).1 = 2) {o2 : Option (Int32 × RSt)} (hm : MB T0 y L p 2 o2) (ht : ∀ S1, PS S0 S1 y L β d ln p x → st_i S1 51 = nI (tkD y L p).2.2.2 → st_i S1 53 = st_i S 53 → fX3_takeNumber S1 = some (2, S1)) : BJ S0 T0 (CR x S) o2 := by
  obtain ⟨S1, Q, e53, e51, h⟩ := NUM_ok P hd hk
  have t := ht S1 Q e51 e53
  exact PS_bad (fun r S2 e => by
    obtain ⟨h1, h2⟩ := h _ _ t
    rw [h1] at e
    cases e
    exact h2) Q (f := 2) (h _ _ t).1 (by decide) (by decide) hm
theorem tn_d {S1 : RSt} (Q : PS S0 S1 y L β d ln p x) : (d = 1 → fX3_takeNumber S1 = fX3_takeMonths S1) ∧ (d = 2 → fX3_takeNumber S1 = fX3_takeGap S1) ∧ (d = 3 → fX3_takeNumber S1 = fX3_takeWeight S1) ∧ (d = 4 → fX3_takeNumber S1 = fX3_takeMonth S1) ∧ (d = 5 → fX3_takeNumber S1 = fX3_takeLevel S1) := by
  have e52 : st_i S1 52 = nI d := Q.2.2.2.2.2.2.2.2.1
  have eta : ∀ o : Option (Int32 × RSt), (ob_2 o fun r S => some (r, S)) = o := fun o => by
    cases o with
    | none => rfl
    | some a => rfl
  unfold fX3_takeNumber
  rw [e52]
  refine ⟨fun e => ?_, fun e => ?_, fun e => ?_, fun e => ?_, fun e => ?_⟩
  · subst e
    rw [if_pos (show nI 1 = (1 : Int32) from rfl), eta]
  · subst e
    rw [if_neg (show ¬ nI 2 = (1 : Int32) by decide), if_pos (show nI 2 = (2 : Int32) from rfl), eta]
  · subst e
    rw [if_neg (show ¬ nI 3 = (1 : Int32) by decide), if_neg (show ¬ nI 3 = (2 : Int32) by decide), if_pos (show nI 3 = (3 : Int32) from rfl), eta]
  · subst e
    rw [if_neg (show ¬ nI 4 = (1 : Int32) by decide), if_neg (show ¬ nI 4 = (2 : Int32) by decide), if_neg (show ¬ nI 4 = (3 : Int32) by decide), if_pos (show nI 4 = (4 : Int32) from rfl), eta]
  · subst e
    rw [if_neg (show ¬ nI 5 = (1 : Int32) by decide), if_neg (show ¬ nI 5 = (2 : Int32) by decide), if_neg (show ¬ nI 5 = (3 : Int32) by decide), if_neg (show ¬ nI 5 = (4 : Int32) by decide), eta]
/-- what a line comes to -/
def LJ (S0 T0 : RSt) (y : Nat → Nat) (L : Nat) (R : BK → Prop) (ln p x : Nat) (S : RSt) (o2 : Option (Int32 × RSt)) : Prop := BJ S0 T0 (CR x S) o2 ∨ ∃ S' T' β' e x', CR x S = CR x' S' ∧ o2 = some (1, T') ∧ PC S0 S' y L β' 0 (ln + 1) e x' ∧ PM T0 T' y L β' ln e ∧ p < e ∧ R β'
/-- weigh: the weight, then the end -/
theorem SIM_weight {g : Nat} (P : PC S0 S y L β 3 ln p x) (e53 : st_i S 53 = nI g) (hg : 0 < g) (hg2 : g < bk_n β) (M : PM T0 T y L β ln p) : LJ S0 T0 y L (fun β' => bk_h β' = bk_h β) ln p x S (ob_2 (fX5_takes 1 3 T) fun r_21 S_22 => (if r_21 = 0 then (some ((0 : Int32), S_22)) else (ob_in (nI (2 + g)) 58 (ob_2 (fX5_readEnd (st_sa S_22 2 (2 + g) (st_i S_22 10))) fun r_27 S_28 => (some (r_27, S_28)))))) := by
  have n8 := M.2.2.1.1.2.1
  obtain ⟨m1, m2, m3⟩ := m_takes M (lo := 1) (hi := 3) (by decide) (by decide)
  have tb := tk_b (y := y) M.1
  have bd : ∀ f, MB T0 y L p f (fX5_takes (nI 1) (nI 3) T) → MB T0 y L p f (ob_2 (fX5_takes 1 3 T) fun r_21 S_22 => (if r_21 = 0 then (some ((0 : Int32), S_22)) else (ob_in (nI (2 + g)) 58 (ob_2 (fX5_readEnd (st_sa S_22 2 (2 + g) (st_i S_22 10))) fun r_27 S_28 => (some (r_27, S_28)))))) := fun f ⟨T', b1, b2⟩ => by
    rw [show (1 : Int32) = nI 1 from rfl, show (3 : Int32) = nI 3 from rfl, ob_2t b1, if_pos rfl]
    exact ⟨T', rfl, b2⟩
  by_cases hk : (tkD y L p).1 = 2
  · have v9 := tb.2.2.2.2.2.1 hk
    by_cases hv : 1 ≤ (tkD y L p).2.2.2 ∧ (tkD y L p).2.2.2 ≤ 3
    · obtain ⟨T1, e1, M1, e10⟩ := m3 hk hv
      obtain ⟨S1, Q, q53, q51, h⟩ := NUM_ok P (by omega) hk
      have Bg := c_weigh Q.2.2.2.2.2.1 hg hg2 hv.2
      have tn : fX3_takeNumber S1 = some (0, st_si (st_sa S1 (2 * 2) g (nI (tkD y L p).2.2.2)) 52 (nI 6)) := by
        rw [(tn_d Q).2.2.1 rfl]
        unfold fX3_takeWeight
        rw [q51, q53, e53, if_neg (show ¬ nI (tkD y L p).2.2.2 < (1 : Int32) from nI_nlt (b := 1) hv.1 (by omega)), if_neg (show ¬ (3 : Int32) < nI (tkD y L p).2.2.2 from nI_nlt (a := 3) hv.2 (by decide)), ob_2t (c_hasGap1 Q.2.2.2.2.2.1 hg hg2), if_neg ne0, q53, e53, ob_in_t (vp_in_nI (show g < 8 by omega) (by decide)), nI_clamp (by omega), q51]
        rfl
      obtain ⟨ht, hCR⟩ := h _ _ tn
      have fy : fY S1 (st_si (st_sa S1 (2 * 2) g (nI (tkD y L p).2.2.2)) 52 (nI 6)) := fr_tr (fr_sa (Or.inl rfl)) (fr_si (by omega))
      have f52 : fY0 (st_sa S1 (2 * 2) g (nI (tkD y L p).2.2.2)) (st_si (st_sa S1 (2 * 2) g (nI (tkD y L p).2.2.2)) 52 (nI 6)) := fr_si (by omega)
      have P2 := PS_ok (β' := bk_weigh β g (tkD y L p).2.2.2) (d' := 6) (ln' := ln) Q (by omega) fy (cB_0 Bg f52) Q.2.2.2.2.2.2.1 (by rw [st_i_ne (by decide), st_i_sa]; exact Q.2.2.2.2.2.2.2.1) (by have := Q.2.2.2.2.1; omega) st_i_eq
      have M2 := PM_row (k := 2 + g) (v := nI (tkD y L p).2.2.2) M1 (m_weigh2 M1.2.2.1 hg hg2 hv.2) rfl
      have pe := tb.2.2.2.1 (by omega)
      rcases SIM_end P2 M2 with hb | ⟨S', T', e, z1, z2, z3, z4, z5⟩
      · left
        obtain ⟨f, b, S', T', w1, w2, w3⟩ := hb
        refine ⟨f, b, S', T', by rw [hCR]; exact w1, ?_, w3⟩
        rw [show (1 : Int32) = nI 1 from rfl, show (3 : Int32) = nI 3 from rfl, ob_2t e1, if_neg ne0, ob_in_t (vp_in_nI (show 2 + g < 58 by omega) (by decide)), e10, ob_2t w2]
      · right
        refine ⟨S', T', _, e, _, by rw [hCR]; exact z1, ?_, z3, z4, by omega, rfl⟩
        rw [show (1 : Int32) = nI 1 from rfl, show (3 : Int32) = nI 3 from rfl, ob_2t e1, if_neg ne0, ob_in_t (vp_in_nI (show 2 + g < 58 by omega) (by decide)), e10, ob_2t z2]
        rfl
    · left
      refine NUM_b2 P (by omega) hk (bd 2 (m2 hk hv)) (fun S1 Q q51 q53 => ?_)
      rw [(tn_d Q).2.2.1 rfl]
      unfold fX3_takeWeight
      rw [q51]
      by_cases c : (tkD y L p).2.2.2 < 1
      · rw [if_pos (show nI (tkD y L p).2.2.2 < (1 : Int32) from nI_lt (b := 1) c (by decide))]
      · rw [if_neg (show ¬ nI (tkD y L p).2.2.2 < (1 : Int32) from nI_nlt (b := 1) (by omega) (by omega)), if_pos (show (3 : Int32) < nI (tkD y L p).2.2.2 from nI_lt (a := 3) (by omega) (by omega))]
  · exact Or.inl (NUM_bad P (by omega) hk (bd 1 (m1 hk)))
theorem isIn_1 {v n : Nat} (hv : v ≤ 1000) (hn : n ≤ 1000) : fX5_isIn (nI v) 1 (nI n - 1) T = some (if 0 < v ∧ v < n then 1 else 0, T) := by
  unfold fX5_isIn
  by_cases c : 0 < v
  · rw [if_neg (show ¬ nI v < (1 : Int32) from nI_nlt (b := 1) c (by omega))]
    by_cases e : v < n
    · rw [if_pos (show 0 < v ∧ v < n from ⟨c, e⟩), if_neg]
      rw [Int32.lt_iff_toInt_lt, nIm hn, nI_t (by omega)]
      omega
    · rw [if_neg (show ¬ (0 < v ∧ v < n) from fun z => e z.2), if_pos]
      rw [Int32.lt_iff_toInt_lt, nIm hn, nI_t (by omega)]
      omega
  · rw [if_pos (show nI v < (1 : Int32) from nI_lt (b := 1) (by omega) (by decide)), if_neg (show ¬ (0 < v ∧ v < n) from fun z => c z.1)]
/-- weigh: the gap and what follows, the word being taken -/
theorem SIM_gap (P : PC S0 S y L β 2 ln p x) (M : PM T0 T y L β ln p) : LJ S0 T0 y L (fun β' => bk_h β' = bk_h β) ln p x S (if (st_i T 5) = (3 : Int32) then (ob_in (0 : Int32) 58 (ob_2 (fX5_isIn (st_i T 6) (1 : Int32) ((st_a T 2 (0 : Int32).toNatClampNeg) - (1 : Int32)) T) fun r_7 S_8 => (if r_7 = 0 then (ob_2 (fX5_bad (2 : Int32) S_8) fun r_12 S_13 => (some (r_12, S_13))) else (ob_in ((2 : Int32) + (st_i S_8 6)) 58 (if (st_a S_8 2 ((2 : Int32) + (st_i S_8 6)).toNatClampNeg) ≤ 0 then (ob_1 (fX5_go S_8) fun S_19 => (ob_2 (fX5_takes (1 : Int32) (3 : Int32) S_19) fun r_21 S_22 => (if r_21 = 0 then (some ((0 : Int32), S_22)) else (ob_in ((2 : Int32) + (st_i S_8 6)) 58 (ob_2 (fX5_readEnd (st_sa S_22 2 ((2 : Int32) + (st_i S_8 6)).toNatClampNeg (st_i S_22 10))) fun r_27 S_28 => (some (r_27, S_28))))))) else (ob_2 (fX5_bad (2 : Int32) S_8) fun r_31 S_32 => (some (r_31, S_32)))))))) else (ob_2 (fX5_bad (1 : Int32) T) fun r_35 S_36 => (some (r_35, S_36)))) := by
  have B := M.2.2.1
  have n8 := B.1.2.1
  have K := M.2.2.2.2.2.1
  have tb := tk_b (y := y) M.1
  by_cases hk : (tkD y L p).1 = 2
  · have v9 := tb.2.2.2.2.2.1 hk
    have pe := tb.2.2.2.1 (by omega)
    rw [if_pos (K.2.2.1.mpr hk), ob_in_t (in0 (by decide)), cl0, K.2.2.2.2.2.2.1 hk, B.2.1, ob_2t (isIn_1 (by omega) (by omega))]
    by_cases hv : 0 < (tkD y L p).2.2.2 ∧ (tkD y L p).2.2.2 < bk_n β
    · have hr : st_a T 2 (2 + (tkD y L p).2.2.2) = nI (bk_w β (tkD y L p).2.2.2) := by
        have := B.2.2.2.1 (tkD y L p).2.2.2 (by omega)
        rw [show 0 + 2 + (tkD y L p).2.2.2 = 2 + (tkD y L p).2.2.2 by omega] at this
        exact this
      have w3 := B.1.2.2.2.1 (tkD y L p).2.2.2
      rw [if_pos hv, if_neg ne0, K.2.2.2.2.2.2.1 hk, show (2 : Int32) + nI (tkD y L p).2.2.2 = nI (2 + (tkD y L p).2.2.2) from nI_add 2 _, ob_in_t (vp_in_nI (show 2 + (tkD y L p).2.2.2 < 58 by omega) (by decide)), nI_clamp (by omega), hr]
      by_cases hw : bk_w β (tkD y L p).2.2.2 = 0
      · rw [hw, if_pos (show nI 0 ≤ 0 by decide)]
        obtain ⟨T1, e1, M1, _⟩ := PM_go M
        obtain ⟨S1, Q, q53, q51, h⟩ := NUM_ok P (by omega) hk
        have tn : fX3_takeNumber S1 = some (0, st_si (st_si S1 53 (nI (tkD y L p).2.2.2)) 52 (nI 3)) := by
          rw [(tn_d Q).2.1 rfl]
          unfold fX3_takeGap
          rw [q51, ob_2t (c_hasGap1 Q.2.2.2.2.2.1 hv.1 hv.2), if_neg ne0, q51, ob_in_t (vp_in_nI (show (tkD y L p).2.2.2 < 8 by omega) (by decide)), nI_clamp (by omega), Q.2.2.2.2.2.1.2.2.2.2.1 _ (by omega), hw, if_pos (show nI 0 = 0 from rfl)]
          rfl
        obtain ⟨ht, hCR⟩ := h _ _ tn
        have fy : fY0 S1 (st_si (st_si S1 53 (nI (tkD y L p).2.2.2)) 52 (nI 3)) := fr_tr (fr_si (by omega)) (fr_si (by omega))
        have P2 := PS_ok (β' := β) (d' := 3) (ln' := ln) Q (by omega) (fY_0 fy) (cB_0 Q.2.2.2.2.2.1 fy) Q.2.2.2.2.2.2.1 (by rw [st_i_ne (by decide), st_i_ne (by decide)]; exact Q.2.2.2.2.2.2.2.1) (by have := Q.2.2.2.2.1; omega) st_i_eq
        rw [ob_1t e1]
        rcases SIM_weight P2 (by rw [st_i_ne (by decide), st_i_ne (by decide), st_i_eq]) hv.1 hv.2 M1 with hb | ⟨S', T', β', e, x', z1, z2, z3, z4, z5, z6⟩
        · left
          obtain ⟨f, b, S', T', w1, w2⟩ := hb
          exact ⟨f, b, S', T', by rw [hCR]; exact w1, w2⟩
        · right
          exact ⟨S', T', β', e, x', by rw [hCR]; exact z1, z2, z3, z4, by omega, z6⟩
      · rw [if_neg (nI_nle (by omega) (by omega))]
        left
        refine NUM_b2 P (by omega) hk (PM_bad (f := 2) M (Or.inr (by omega))) (fun S1 Q q51 q53 => ?_)
        rw [(tn_d Q).2.1 rfl]
        unfold fX3_takeGap
        rw [q51, ob_2t (c_hasGap1 Q.2.2.2.2.2.1 hv.1 hv.2), if_neg ne0, q51, ob_in_t (vp_in_nI (show (tkD y L p).2.2.2 < 8 by omega) (by decide)), nI_clamp (by omega), Q.2.2.2.2.2.1.2.2.2.2.1 _ (by omega), if_neg (nI_ne0 (by omega) (by omega))]
    · rw [if_neg hv, if_pos rfl]
      left
      refine NUM_b2 P (by omega) hk (PM_bad (f := 2) M (Or.inr (by omega))) (fun S1 Q q51 q53 => ?_)
      rw [(tn_d Q).2.1 rfl]
      unfold fX3_takeGap
      rw [q51, ob_2t (c_hasGap0 Q.2.2.2.2.2.1 (by
        by_cases z : (tkD y L p).2.2.2 = 0
        · exact Or.inr (by rw [z])
        · exact Or.inl (Or.inr ⟨nI_pos (by omega), nI_le (by omega) (by omega)⟩))), if_pos rfl]
  · rw [if_neg (fun z => hk (K.2.2.1.mp z))]
    exact Or.inl (NUM_bad P (by omega) hk (PM_bad (f := 1) M (Or.inl rfl)))
end LIN
