/-! Homes and sales told. -/
section LI2
variable {S0 S T0 T : RSt} {y : Nat → Nat} {L : Nat} {β : BK} {d ln p x : Nat}
theorem PM_sold {β' : BK} {k : Nat} {v : Int32} {c : Nat} (M : PM T0 T y L β ln p) (B : mB (st_sa T 2 k v) 2 0 β') (hc : bk_c β' = c) : PM T0 (st_si (st_sa T 2 k v) 11 (nI c)) y L β' ln p := by
  obtain ⟨h0, h1, h2, h3, h4, h5, h6⟩ := M
  have f : fr (fun k => k = 11) no (fun a => a = 2) no T (st_si (st_sa T 2 k v) 11 (nI c)) := fr_tr (fr_sa rfl) (fr_si rfl)
  refine ⟨h0, tp2_fr h1 f (by decide) (by decide), mB_fr (I := fun k => k = 11) (J := no) (A := no) (G := no) B (fr_si rfl) (fun z => z), by rw [st_i_eq, hc], by rw [st_i_ne (by decide)]; exact h4, ?_, fr_tr h6 (fr_mo f (fun _ z => by omega) (fun _ z => z.elim) (fun _ z => z) (fun _ z => z))⟩
  obtain ⟨k1, k2, k3, k4, k5, k6, k7, k8⟩ := h5
  refine ⟨by rw [st_i_ne (by decide)]; exact k1, by rw [st_i_ne (by decide)]; exact k2, by rw [st_i_ne (by decide)]; exact k3, by rw [st_i_ne (by decide)]; exact k4, by rw [st_i_ne (by decide)]; exact k5, by rw [st_i_ne (by decide)]; exact k6, fun z => by rw [st_i_ne (by decide)]; exact k7 z, fun w hw => ?_⟩
  have q := k8 w hw
  unfold fX5_isWord at q ⊢
  show (if st_i (st_si (st_sa T 2 k v) 11 (nI c)) 5 = 2 then (if lg_cmp (st_j T 0) (lN (wh w)) = 0 then some ((1 : Int32), st_si (st_sa T 2 k v) 11 (nI c)) else some ((0 : Int32), st_si (st_sa T 2 k v) 11 (nI c))) else some ((0 : Int32), st_si (st_sa T 2 k v) 11 (nI c))) = _
  rw [st_i_ne (by decide), st_i_sa]
  split at q
  · rw [if_pos (by assumption)]
    split at q
    · rw [if_pos (by assumption)]
      have := congrArg (Option.map Prod.fst) q
      have : some (1 : Int32) = some (if (tkD y L p).1 = 4 + w then 1 else 0) := this
      rw [← Option.some.inj this]
    · rw [if_neg (by assumption)]
      have := congrArg (Option.map Prod.fst) q
      have : some (0 : Int32) = some (if (tkD y L p).1 = 4 + w then 1 else 0) := this
      rw [← Option.some.inj this]
  · rw [if_neg (by assumption)]
    have := congrArg (Option.map Prod.fst) q
    have : some (0 : Int32) = some (if (tkD y L p).1 = 4 + w then 1 else 0) := this
    rw [← Option.some.inj this]
/-- sale: the level, then the end -/
theorem SIM_level {b : Nat} (P : PC S0 S y L β 5 ln p x) (e53 : st_i S 53 = nI b) (hh : 0 < bk_h β) (hb : b < bk_n β) (h0 : bk_v β (8 * (bk_h β - 1) + b) = 0) (hc : bk_c β < 18) (M : PM T0 T y L β ln p) : LJ S0 T0 y L (fun β' => bk_h β' = bk_h β) ln p x S (ob_2 (fX5_takes 0 999 T) fun r_19 S_20 => (if r_19 = 0 then (some ((0 : Int32), S_20)) else (ob_in (nI (10 + (8 * (bk_h β - 1) + b))) 58 (ob_2 (fX5_readEnd (st_si (st_sa S_20 2 (10 + (8 * (bk_h β - 1) + b)) ((st_i S_20 10) + (1 : Int32))) 11 ((st_i (st_sa S_20 2 (10 + (8 * (bk_h β - 1) + b)) ((st_i S_20 10) + (1 : Int32))) 11) + (1 : Int32)))) fun r_25 S_26 => (some (r_25, S_26)))))) := by
  have n8 := M.2.2.1.1.2.1
  have h6 := M.2.2.1.1.2.2.1
  obtain ⟨m1, m2, m3⟩ := m_takes M (lo := 0) (hi := 999) (by decide) (by decide)
  have tb := tk_b (y := y) M.1
  by_cases hk : (tkD y L p).1 = 2
  · have v9 := tb.2.2.2.2.2.1 hk
    have pe := tb.2.2.2.1 (by omega)
    obtain ⟨T1, e1, M1, e10⟩ := m3 hk ⟨by omega, by omega⟩
    obtain ⟨S1, Q, q53, q51, h⟩ := NUM_ok P (by omega) hk
    have Q6 := Q.2.2.2.2.2.1
    have hm1 : st_i S1 (3 * 2 + 1) - 1 = nI (bk_h β - 1) := by
      rw [Q6.2.2.1, ← nI_pred (bk_h β - 1), show bk_h β - 1 + 1 = bk_h β by omega]
    obtain ⟨S2, d1, B2, g2, c2⟩ := c_putSale1 (a := bk_h β - 1) Q6 (by omega) hb h0 v9
    have tn : fX3_takeNumber S1 = some (0, st_si S2 52 (nI 6)) := by
      rw [(tn_d Q).2.2.2.2 rfl]
      unfold fX3_takeLevel
      rw [hm1, q53, e53, q51, ob_2t (c_canTake1 (a := bk_h β - 1) Q6 (by omega) hb h0 v9), if_neg ne0, hm1, q53, e53, q51, ob_1t d1]
      rfl
    obtain ⟨ht, hCR⟩ := h _ _ tn
    have fy : fY S1 (st_si S2 52 (nI 6)) := fr_tr (fr_mo g2 (fun _ z => by omega) (fun _ z => z) (fun _ z => by omega) (fun _ z => z)) (fr_si (by omega))
    have f52 : fY0 S2 (st_si S2 52 (nI 6)) := fr_si (by omega)
    have P2 := PS_ok (β' := bk_set β (8 * (bk_h β - 1) + b) ((tkD y L p).2.2.2 + 1)) (d' := 6) (ln' := ln) Q (by omega) fy (cB_0 B2 f52) (by omega) (by rw [st_i_ne (by decide), g2.1 47 (by omega)]; exact Q.2.2.2.2.2.2.2.1) (by have := Q.2.2.2.2.1; omega) st_i_eq
    have M2 := PM_sold (k := 10 + (8 * (bk_h β - 1) + b)) (v := nI ((tkD y L p).2.2.2 + 1)) M1 (m_write2 M1.2.2.1 (a := bk_h β - 1) (by omega) hb (by omega)) c2
    have st : ob_in (nI (10 + (8 * (bk_h β - 1) + b))) 58 (ob_2 (fX5_readEnd (st_si (st_sa T1 2 (10 + (8 * (bk_h β - 1) + b)) ((st_i T1 10) + (1 : Int32))) 11 ((st_i (st_sa T1 2 (10 + (8 * (bk_h β - 1) + b)) ((st_i T1 10) + (1 : Int32))) 11) + (1 : Int32)))) fun r_25 S_26 => (some (r_25, S_26))) = ob_2 (fX5_readEnd (st_si (st_sa T1 2 (10 + (8 * (bk_h β - 1) + b)) (nI ((tkD y L p).2.2.2 + 1))) 11 (nI (bk_c β + 1)))) fun r_25 S_26 => (some (r_25, S_26)) := by
      rw [ob_in_t (vp_in_nI (show 10 + (8 * (bk_h β - 1) + b) < 58 by omega) (by decide)), st_i_sa, e10, M1.2.2.2.1, nI_1, nI_1]
    rcases SIM_end P2 M2 with hbb | ⟨S', T', e, z1, z2, z3, z4, z5⟩
    · left
      obtain ⟨f, b', S', T', w1, w2, w3⟩ := hbb
      refine ⟨f, b', S', T', by rw [hCR]; exact w1, ?_, w3⟩
      rw [show (0 : Int32) = nI 0 from rfl, show (999 : Int32) = nI 999 from rfl, ob_2t e1, if_neg (show ¬ (1 : Int32) = nI 0 by decide), st, ob_2t w2]
      rfl
    · right
      refine ⟨S', T', _, e, _, by rw [hCR]; exact z1, ?_, z3, z4, by omega, rfl⟩
      rw [show (0 : Int32) = nI 0 from rfl, show (999 : Int32) = nI 999 from rfl, ob_2t e1, if_neg (show ¬ (1 : Int32) = nI 0 by decide), st, ob_2t z2]
  · refine Or.inl (NUM_bad P (by omega) hk ?_)
    obtain ⟨T', b1, b2⟩ := m1 hk
    rw [show (0 : Int32) = nI 0 from rfl, show (999 : Int32) = nI 999 from rfl, ob_2t b1, if_pos (show (0 : Int32) = nI 0 from rfl)]
    exact ⟨T', rfl, b2⟩
/-- sale: the month and what follows, the word being taken -/
theorem SIM_month (P : PC S0 S y L β 4 ln p x) (hh : 0 < bk_h β) (hc : bk_c β < 18) (M : PM T0 T y L β ln p) : LJ S0 T0 y L (fun β' => bk_h β' = bk_h β) ln p x S (ob_in (1 : Int32) 58 (if (st_i T 5) = (3 : Int32) then (ob_in (0 : Int32) 58 (if (st_a T 2 (0 : Int32).toNatClampNeg) ≤ (st_i T 6) then (ob_2 (fX5_bad (2 : Int32) T) fun r_10 S_11 => (some (r_10, S_11))) else (ob_in (((10 : Int32) + ((8 : Int32) * ((st_a T 2 (1 : Int32).toNatClampNeg) - (1 : Int32)))) + (st_i T 6)) 58 (if (st_a T 2 (((10 : Int32) + ((8 : Int32) * ((st_a T 2 (1 : Int32).toNatClampNeg) - (1 : Int32)))) + (st_i T 6)).toNatClampNeg) ≤ 0 then (ob_1 (fX5_go T) fun S_17 => (ob_2 (fX5_takes (0 : Int32) (999 : Int32) S_17) fun r_19 S_20 => (if r_19 = 0 then (some ((0 : Int32), S_20)) else (ob_in (((10 : Int32) + ((8 : Int32) * ((st_a T 2 (1 : Int32).toNatClampNeg) - (1 : Int32)))) + (st_i T 6)) 58 (ob_2 (fX5_readEnd (st_si (st_sa S_20 2 (((10 : Int32) + ((8 : Int32) * ((st_a T 2 (1 : Int32).toNatClampNeg) - (1 : Int32)))) + (st_i T 6)).toNatClampNeg ((st_i S_20 10) + (1 : Int32))) 11 ((st_i (st_sa S_20 2 (((10 : Int32) + ((8 : Int32) * ((st_a T 2 (1 : Int32).toNatClampNeg) - (1 : Int32)))) + (st_i T 6)).toNatClampNeg ((st_i S_20 10) + (1 : Int32))) 11) + (1 : Int32)))) fun r_25 S_26 => (some (r_25, S_26))))))) else (ob_2 (fX5_bad (2 : Int32) T) fun r_29 S_30 => (some (r_29, S_30))))))) else (ob_2 (fX5_bad (1 : Int32) T) fun r_33 S_34 => (some (r_33, S_34))))) := by
  have B := M.2.2.1
  have n8 := B.1.2.1
  have h6 := B.1.2.2.1
  have K := M.2.2.2.2.2.1
  have tb := tk_b (y := y) M.1
  have e1' : st_a T 2 1 = nI (bk_h β) := B.2.2.1
  rw [ob_in_t (in1 (by decide))]
  by_cases hk : (tkD y L p).1 = 2
  · have v9 := tb.2.2.2.2.2.1 hk
    have pe := tb.2.2.2.1 (by omega)
    have ix : ((10 : Int32) + (8 : Int32) * (nI (bk_h β) - 1)) + nI (tkD y L p).2.2.2 = nI (10 + (8 * (bk_h β - 1) + (tkD y L p).2.2.2)) := by
      rw [show nI (bk_h β) - 1 = nI (bk_h β - 1) by rw [← nI_pred (bk_h β - 1), show bk_h β - 1 + 1 = bk_h β by omega], show (8 : Int32) = nI 8 from rfl, show (10 : Int32) = nI 10 from rfl, pk_mul, nI_add, nI_add, Nat.add_assoc]
    rw [if_pos (K.2.2.1.mpr hk), ob_in_t (in0 (by decide)), cl0, cl1, K.2.2.2.2.2.2.1 hk, B.2.1, e1', ix]
    by_cases hv : bk_n β ≤ (tkD y L p).2.2.2
    · rw [if_pos (nI_le hv (by omega))]
      left
      refine NUM_b2 P (by omega) hk (PM_bad (f := 2) M (Or.inr (by omega))) (fun S1 Q q51 q53 => ?_)
      rw [(tn_d Q).2.2.2.1 rfl]
      unfold fX3_takeMonth
      rw [q51, ob_2t (c_hasMonth0 Q.2.2.2.2.2.1 (Or.inr ⟨nI_pos (by omega), nI_le hv (by omega)⟩)), if_pos rfl]
    · have hr : st_a T 2 (10 + (8 * (bk_h β - 1) + (tkD y L p).2.2.2)) = nI (bk_v β (8 * (bk_h β - 1) + (tkD y L p).2.2.2)) := by
        have := B.2.2.2.2 (8 * (bk_h β - 1) + (tkD y L p).2.2.2) (by omega)
        rw [show 0 + 10 + (8 * (bk_h β - 1) + (tkD y L p).2.2.2) = 10 + (8 * (bk_h β - 1) + (tkD y L p).2.2.2) by omega] at this
        exact this
      have v30 := B.1.2.2.2.2.2.1 (8 * (bk_h β - 1) + (tkD y L p).2.2.2)
      rw [if_neg (nI_ge (by omega) (by omega)), ob_in_t (vp_in_nI (show 10 + (8 * (bk_h β - 1) + (tkD y L p).2.2.2) < 58 by omega) (by decide)), nI_clamp (by omega), hr]
      by_cases hw : bk_v β (8 * (bk_h β - 1) + (tkD y L p).2.2.2) = 0
      · rw [hw, if_pos (show nI 0 ≤ 0 by decide)]
        obtain ⟨T1, e1, M1, _⟩ := PM_go M
        obtain ⟨S1, Q, q53, q51, h⟩ := NUM_ok P (by omega) hk
        have Q6 := Q.2.2.2.2.2.1
        have hm1 : st_i S1 (3 * 2 + 1) - 1 = nI (bk_h β - 1) := by
          rw [Q6.2.2.1, ← nI_pred (bk_h β - 1), show bk_h β - 1 + 1 = bk_h β by omega]
        have tn : fX3_takeNumber S1 = some (0, st_si (st_si S1 53 (nI (tkD y L p).2.2.2)) 52 (nI 5)) := by
          rw [(tn_d Q).2.2.2.1 rfl]
          unfold fX3_takeMonth
          rw [q51, ob_2t (c_hasMonth1 Q6 (by omega)), if_neg ne0, hm1, q51, ob_2t (c_levelAt1 (a := bk_h β - 1) Q6 (by omega) (by omega)), if_pos ((nI_m1 (c_v30 Q6 _)).mpr hw), q51]
          rfl
        obtain ⟨ht, hCR⟩ := h _ _ tn
        have fy : fY0 S1 (st_si (st_si S1 53 (nI (tkD y L p).2.2.2)) 52 (nI 5)) := fr_tr (fr_si (by omega)) (fr_si (by omega))
        have P2 := PS_ok (β' := β) (d' := 5) (ln' := ln) Q (by omega) (fY_0 fy) (cB_0 Q6 fy) Q.2.2.2.2.2.2.1 (by rw [st_i_ne (by decide), st_i_ne (by decide)]; exact Q.2.2.2.2.2.2.2.1) (by have := Q.2.2.2.2.1; omega) st_i_eq
        rw [ob_1t e1]
        rcases SIM_level P2 (by rw [st_i_ne (by decide), st_i_ne (by decide), st_i_eq]) hh (by omega) hw hc M1 with hb | ⟨S', T', β', e, x', z1, z2, z3, z4, z5, z6⟩
        · left
          obtain ⟨f, b, S', T', w1, w2⟩ := hb
          exact ⟨f, b, S', T', by rw [hCR]; exact w1, w2⟩
        · right
          exact ⟨S', T', β', e, x', by rw [hCR]; exact z1, z2, z3, z4, by omega, z6⟩
      · rw [if_neg (nI_nle (by omega) (by omega))]
        left
        refine NUM_b2 P (by omega) hk (PM_bad (f := 2) M (Or.inr (by omega))) (fun S1 Q q51 q53 => ?_)
        have Q6 := Q.2.2.2.2.2.1
        have hm1 : st_i S1 (3 * 2 + 1) - 1 = nI (bk_h β - 1) := by
          rw [Q6.2.2.1, ← nI_pred (bk_h β - 1), show bk_h β - 1 + 1 = bk_h β by omega]
        rw [(tn_d Q).2.2.2.1 rfl]
        unfold fX3_takeMonth
        rw [q51, ob_2t (c_hasMonth1 Q6 (by omega)), if_neg ne0, hm1, q51, ob_2t (c_levelAt1 (a := bk_h β - 1) Q6 (by omega) (by omega)), if_neg (fun z => hw ((nI_m1 (c_v30 Q6 _)).mp z))]
  · rw [if_neg (fun z => hk (K.2.2.1.mp z))]
    exact Or.inl (NUM_bad P (by omega) hk (PM_bad (f := 1) M (Or.inl rfl)))
/-! A word is due. -/
theorem take_w {S1 : RSt} (Q : PS S0 S1 y L β 0 ln p x) (hk : (tkD y L p).1 ≠ 0) : fX3_take S1 = fX3_takeWord S1 := by
  have eta : ∀ o : Option (Int32 × RSt), (ob_2 o fun r S => some (r, S)) = o := fun o => by
    cases o with
    | none => rfl
    | some a => rfl
  have t5 := (tk_b (y := y) Q.2.1).2.2.2.2.1
  have h9 : st_i S1 52 = nI 0 := Q.2.2.2.2.2.2.2.2.1
  unfold fX3_take
  rw [Q.2.2.2.2.2.2.2.2.2.2.1.1, h9, if_neg (nI_ne0 (by omega) (by omega)), if_pos (show nI 0 = 0 from rfl), eta]
def tw7 (S : RSt) : Option (Int32 × RSt) := (if (st_i S 50) = (7 : Int32) then (if (st_i S (3 * 2 + 1)) ≤ 0 then (some ((1 : Int32), S)) else (if (18 : Int32) ≤ (st_i S (3 * 2 + 2)) then (some ((3 : Int32), S)) else (ob_2 (fX3_goOn (4 : Int32) S) fun r_13 S_14 => (some (r_13, S_14))))) else (some ((1 : Int32), S)))
def tw6 (f : Int32) (S : RSt) : Option (Int32 × RSt) := (if (st_i S 50) = (6 : Int32) then (if f = 0 then (ob_2 (fX3_takeHome S) fun r_19 S_20 => (some (r_19, S_20))) else (tw7 S)) else (tw7 S))
def tw5 (f : Int32) (S : RSt) : Option (Int32 × RSt) := (if (st_i S 50) = (5 : Int32) then (if f = 0 then (if (st_i S (3 * 2 + 1)) = 0 then (ob_2 (fX3_goOn (2 : Int32) S) fun r_26 S_27 => (some (r_26, S_27))) else (tw6 f S)) else (tw6 f S)) else (tw6 f S))
def tw4 (f : Int32) (S : RSt) : Option (Int32 × RSt) := (if (st_i S 50) = (4 : Int32) then (if f = 0 then (tw5 f S) else (ob_2 (fX3_goOn (1 : Int32) S) fun r_32 S_33 => (some (r_32, S_33)))) else (tw5 f S))
theorem tw_rfl (S : RSt) : fX3_takeWord S = if st_i S 47 = 0 then tw4 1 S else tw4 0 S := rfl
theorem tw_val {S1 : RSt} (Q : PS S0 S1 y L β 0 ln p x) : fX3_takeWord S1 = if (tkD y L p).1 = 4 ∧ ln = 0 then fX3_goOn 1 S1 else if (tkD y L p).1 = 5 ∧ ln ≠ 0 ∧ bk_h β = 0 then fX3_goOn 2 S1 else if (tkD y L p).1 = 6 ∧ ln ≠ 0 then fX3_takeHome S1 else if (tkD y L p).1 = 7 ∧ bk_h β ≠ 0 then (if 18 ≤ bk_c β then some (3, S1) else fX3_goOn 4 S1) else some (1, S1) := by
  have eta : ∀ o : Option (Int32 × RSt), (ob_2 o fun r S => some (r, S)) = o := fun o => by
    cases o with
    | none => rfl
    | some a => rfl
  have t5 := (tk_b (y := y) Q.2.1).2.2.2.2.1
  have h50 : st_i S1 50 = nI (tkD y L p).1 := Q.2.2.2.2.2.2.2.2.2.2.1.1
  have h47 : st_i S1 47 = nI ln := Q.2.2.2.2.2.2.2.1
  have hx := Q.2.2.2.1
  have hln := Q.2.2.2.2.1
  have B := Q.2.2.2.2.2.1
  have h6 := B.1.2.2.1
  have hc := Q.2.2.2.2.2.2.1
  have e7 : st_i S1 (3 * 2 + 1) = nI (bk_h β) := B.2.2.1
  have e8 : st_i S1 (3 * 2 + 2) = nI (bk_c β) := B.2.2.2.1
  have k4 : (nI (tkD y L p).1 = (4 : Int32)) ↔ (tkD y L p).1 = 4 := nI_eq (b := 4) (by omega) (by decide)
  have k5 : (nI (tkD y L p).1 = (5 : Int32)) ↔ (tkD y L p).1 = 5 := nI_eq (b := 5) (by omega) (by decide)
  have k6 : (nI (tkD y L p).1 = (6 : Int32)) ↔ (tkD y L p).1 = 6 := nI_eq (b := 6) (by omega) (by decide)
  have k7 : (nI (tkD y L p).1 = (7 : Int32)) ↔ (tkD y L p).1 = 7 := nI_eq (b := 7) (by omega) (by decide)
  have l0 : (nI ln = (0 : Int32)) ↔ ln = 0 := nI_eq (b := 0) (by omega) (by decide)
  have b0 : (nI (bk_h β) = (0 : Int32)) ↔ bk_h β = 0 := nI_eq (b := 0) (by omega) (by decide)
  have bl0 : (nI (bk_h β) ≤ (0 : Int32)) ↔ bk_h β = 0 := by
    by_cases z : bk_h β = 0
    · rw [z]
      exact ⟨fun _ => rfl, fun _ => by decide⟩
    · exact ⟨fun w => absurd w (nI_nle (by omega) (by omega)), fun w => absurd w z⟩
  have c18 : ((18 : Int32) ≤ nI (bk_c β)) ↔ 18 ≤ bk_c β := nI_leI (a := 18) (by decide) (by omega)
  have r7 : tw7 S1 = if (tkD y L p).1 = 7 ∧ bk_h β ≠ 0 then (if 18 ≤ bk_c β then some (3, S1) else fX3_goOn 4 S1) else some (1, S1) := by
    unfold tw7
    rw [h50, e7, e8, eta]
    by_cases z : (tkD y L p).1 = 7
    · rw [if_pos (k7.mpr z)]
      by_cases w : bk_h β = 0
      · rw [if_pos (bl0.mpr w), if_neg (show ¬ ((tkD y L p).1 = 7 ∧ bk_h β ≠ 0) from fun q => q.2 w)]
      · rw [if_neg (fun q => w (bl0.mp q)), if_pos (show (tkD y L p).1 = 7 ∧ bk_h β ≠ 0 from ⟨z, w⟩)]
        by_cases u : 18 ≤ bk_c β
        · rw [if_pos (c18.mpr u), if_pos u]
        · rw [if_neg (fun q => u (c18.mp q)), if_neg u]
    · rw [if_neg (fun q => z (k7.mp q)), if_neg (show ¬ ((tkD y L p).1 = 7 ∧ bk_h β ≠ 0) from fun q => z q.1)]
  rw [tw_rfl, h47, ← r7]
  by_cases z0 : ln = 0
  · rw [if_pos (l0.mpr z0)]
    have r6 : tw6 1 S1 = tw7 S1 := by
      unfold tw6
      by_cases z6 : st_i S1 50 = 6
      · rw [if_pos z6, if_neg ne0]
      · rw [if_neg z6]
    have r5 : tw5 1 S1 = tw7 S1 := by
      unfold tw5
      by_cases z5 : st_i S1 50 = 5
      · rw [if_pos z5, if_neg ne0, r6]
      · rw [if_neg z5, r6]
    unfold tw4
    rw [h50, r5, eta]
    by_cases z4 : (tkD y L p).1 = 4
    · rw [if_pos (k4.mpr z4), if_neg ne0, if_pos (show (tkD y L p).1 = 4 ∧ ln = 0 from ⟨z4, z0⟩)]
    · rw [if_neg (fun q => z4 (k4.mp q)), if_neg (show ¬ ((tkD y L p).1 = 4 ∧ ln = 0) from fun q => z4 q.1), if_neg (show ¬ ((tkD y L p).1 = 5 ∧ ln ≠ 0 ∧ bk_h β = 0) from fun q => q.2.1 z0), if_neg (show ¬ ((tkD y L p).1 = 6 ∧ ln ≠ 0) from fun q => q.2 z0)]
  · rw [if_neg (fun q => z0 (l0.mp q)), if_neg (show ¬ ((tkD y L p).1 = 4 ∧ ln = 0) from fun q => z0 q.2)]
    have r4 : tw4 0 S1 = tw5 0 S1 := by
      unfold tw4
      by_cases z4 : st_i S1 50 = 4
      · rw [if_pos z4, if_pos rfl]
      · rw [if_neg z4]
    have r6 : tw6 0 S1 = if (tkD y L p).1 = 6 ∧ ln ≠ 0 then fX3_takeHome S1 else tw7 S1 := by
      unfold tw6
      rw [h50, eta]
      by_cases z6 : (tkD y L p).1 = 6
      · rw [if_pos (k6.mpr z6), if_pos rfl, if_pos (show (tkD y L p).1 = 6 ∧ ln ≠ 0 from ⟨z6, z0⟩)]
      · rw [if_neg (fun q => z6 (k6.mp q)), if_neg (show ¬ ((tkD y L p).1 = 6 ∧ ln ≠ 0) from fun q => z6 q.1)]
    rw [r4]
    unfold tw5
    rw [h50, e7, eta, r6]
    by_cases z5 : (tkD y L p).1 = 5
    · rw [if_pos (k5.mpr z5), if_pos rfl]
      by_cases w : bk_h β = 0
      · rw [if_pos (b0.mpr w), if_pos (show (tkD y L p).1 = 5 ∧ ln ≠ 0 ∧ bk_h β = 0 from ⟨z5, z0, w⟩)]
      · rw [if_neg (fun q => w (b0.mp q)), if_neg (show ¬ ((tkD y L p).1 = 5 ∧ ln ≠ 0 ∧ bk_h β = 0) from fun q => w q.2.2)]
    · rw [if_neg (fun q => z5 (k5.mp q)), if_neg (show ¬ ((tkD y L p).1 = 5 ∧ ln ≠ 0 ∧ bk_h β = 0) from fun q => z5 q.1)]
end LI2
