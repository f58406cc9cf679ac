/-! Lines, loops, the whole text. -/
section TXT
variable {S0 S T0 T : RSt} {y : Nat → Nat} {L : Nat} {β : BK} {d ln p x : Nat}
theorem W_it (P : PC S0 S y L β 0 ln p x) {n : Nat} (hn : n < 7) (hk : (tkD y L p).1 ≠ 0) (ht : ∀ S1, PS S0 S1 y L β 0 ln p x → fX3_takeWord S1 = fX3_goOn (nI n) S1) : ∃ S', CR x S = CR (x + 1) S' ∧ PC S0 S' y L β n ln (tkD y L p).2.2.1 (x + 1) := by
  obtain ⟨S1, Q, _, hCR⟩ := C_it P
  have tk : fX3_take S1 = some (0, st_si S1 52 (nI n)) := by
    rw [take_w Q hk, ht S1 Q]
    rfl
  have fy : fY0 S1 (st_si S1 52 (nI n)) := fr_si (by omega)
  exact ⟨_, hCR _ _ tk, PS_ok Q hk (fY_0 fy) (cB_0 Q.2.2.2.2.2.1 fy) Q.2.2.2.2.2.2.1 (by rw [st_i_ne (by decide)]; exact Q.2.2.2.2.2.2.2.1) (by have := Q.2.2.2.2.1; omega) st_i_eq⟩
theorem W_bad (P : PC S0 S y L β 0 ln p x) {f : Nat} (hf : 0 < f) (hf3 : f ≤ 3) (hk : (tkD y L p).1 ≠ 0) (ht : ∀ S1, PS S0 S1 y L β 0 ln p x → fX3_takeWord S1 = some (nI f, S1)) {o2 : Option (Int32 × RSt)} (hm : MB T0 y L p f o2) : BJ S0 T0 (CR x S) o2 := by
  obtain ⟨S1, Q, _, hCR⟩ := C_it P
  exact PS_bad hCR Q (by rw [take_w Q hk, ht S1 Q]) hf hf3 hm
/-- no line can begin so -/
theorem W_no (P : PC S0 S y L β 0 ln p x) (h0 : (tkD y L p).1 = 0 → ln = 0 ∨ 500 < L) (h4 : (tkD y L p).1 = 4 → ln ≠ 0) (h5 : (tkD y L p).1 = 5 → ln = 0 ∨ bk_h β ≠ 0) (h6 : (tkD y L p).1 = 6 → ln = 0) (h7 : (tkD y L p).1 = 7 → bk_h β = 0) {o2 : Option (Int32 × RSt)} (hm : MB T0 y L p 1 o2) : BJ S0 T0 (CR x S) o2 := by
  by_cases hk : (tkD y L p).1 = 0
  · obtain ⟨S1, Q, _, hCR⟩ := C_it P
    refine PS_bad hCR Q (f := 1) ?_ (by decide) (by decide) hm
    have h50 : st_i S1 50 = nI 0 := by rw [Q.2.2.2.2.2.2.2.2.2.2.1.1, hk]
    have h52 : st_i S1 52 = nI 0 := Q.2.2.2.2.2.2.2.2.1
    have h47 : st_i S1 47 = nI ln := Q.2.2.2.2.2.2.2.1
    have h45 : st_i S1 45 = nI L := Q.1.2.2.1
    have hL := Q.1.1
    have hx := Q.2.2.2.1
    have hl := Q.2.2.2.2.1
    unfold fX3_take
    rw [h50, if_pos (show nI 0 = 0 from rfl), h52, if_pos (show nI 0 = 0 from rfl), h47, h45]
    by_cases z : ln = 0
    · rw [z, if_pos (show nI 0 ≤ 0 by decide)]
      rfl
    · rw [if_neg (nI_nle (by omega) (by omega)), if_pos (show (500 : Int32) < nI L from nI_lt (a := 500) ((h0 hk).resolve_left z) (by omega))]
      rfl
  · refine W_bad P (f := 1) (by decide) (by decide) hk (fun S1 Q => ?_) hm
    rw [tw_val Q, if_neg (fun z => h4 z.1 z.2), if_neg (fun z => (h5 z.1).elim z.2.1 (fun w => w z.2.2)), if_neg (fun z => z.2 (h6 z.1)), if_neg (fun z => z.2 (h7 z.1))]
    rfl
theorem SIM_W (P : PC S0 S y L β 0 ln p x) (M : PM T0 T y L β ln p) (hk : (tkD y L p).1 = 5) (hl : ln ≠ 0) (hh : bk_h β = 0) : LJ S0 T0 y L (fun β' => bk_h β' = 0) ln p x S (fX5_readWeigh T) := by
  obtain ⟨S', c1, P1⟩ := W_it P (n := 2) (by decide) (by omega) (fun S1 Q => by
    rw [tw_val Q, if_neg (by omega), if_pos ⟨hk, hl, hh⟩]
    rfl)
  obtain ⟨T1, e1, M1, _⟩ := PM_go M
  have pe := (tk_b (y := y) M.1).2.2.2.1 (by omega)
  unfold fX5_readWeigh
  rw [ob_1t e1]
  rcases SIM_gap P1 M1 with hb | ⟨S2, T2, β', e, x', z1, z2, z3, z4, z5, z6⟩
  · left
    rw [c1]
    exact hb
  · right
    exact ⟨S2, T2, β', e, x', by rw [c1]; exact z1, z2, z3, z4, by omega, z6.trans hh⟩
theorem SIM_S (P : PC S0 S y L β 0 ln p x) (M : PM T0 T y L β ln p) (hk : (tkD y L p).1 = 7) (hl : ln ≠ 0) (hh : bk_h β ≠ 0) : LJ S0 T0 y L (fun β' => bk_h β' ≠ 0) ln p x S (fX5_readSale T) := by
  have hc := P.2.2.2.2.2.2.1
  have pe := (tk_b (y := y) M.1).2.2.2.1 (by omega)
  unfold fX5_readSale
  rw [M.2.2.2.1]
  by_cases c : bk_c β = 18
  · rw [c, if_pos (show nI 18 = 18 from rfl)]
    left
    refine W_bad P (f := 3) (by decide) (by decide) (by omega) (fun S1 Q => ?_) (PM_bad (f := 3) M (Or.inr (by omega)))
    rw [tw_val Q, if_neg (by omega), if_neg (by omega), if_neg (by omega), if_pos ⟨hk, hh⟩, if_pos (by omega)]
    rfl
  · rw [if_neg (show ¬ nI (bk_c β) = (18 : Int32) from fun z => c ((nI_eq (b := 18) (by omega) (by decide)).mp z))]
    obtain ⟨S', c1, P1⟩ := W_it P (n := 4) (by decide) (by omega) (fun S1 Q => by
      rw [tw_val Q, if_neg (by omega), if_neg (by omega), if_neg (by omega), if_pos ⟨hk, hh⟩, if_neg (by omega)]
      rfl)
    obtain ⟨T1, e1, M1, _⟩ := PM_go M
    rw [ob_1t e1]
    rcases SIM_month P1 (by omega) (by omega) M1 with hb | ⟨S2, T2, β', e, x', z1, z2, z3, z4, z5, z6⟩
    · left
      rw [c1]
      exact hb
    · right
      exact ⟨S2, T2, β', e, x', by rw [c1]; exact z1, z2, z3, z4, by omega, fun w => hh (z6.symm.trans w)⟩
theorem SIM_H (P : PC S0 S y L β 0 ln p x) (M : PM T0 T y L β ln p) (hk : (tkD y L p).1 = 6) (hl : ln ≠ 0) : LJ S0 T0 y L (fun β' => bk_h β' ≠ 0) ln p x S (fX5_readHome T) := by
  have hc := P.2.2.2.2.2.2.1
  have h6 := M.2.2.1.1.2.2.1
  have pe := (tk_b (y := y) M.1).2.2.2.1 (by omega)
  have e1' : st_a T 2 1 = nI (bk_h β) := M.2.2.1.2.2.1
  unfold fX5_readHome
  rw [ob_in_t (in1 (by decide)), cl1, e1']
  have tw : ∀ S1, PS S0 S1 y L β 0 ln p x → fX3_takeWord S1 = fX3_takeHome S1 := fun S1 Q => by
    rw [tw_val Q, if_neg (by omega), if_neg (by omega), if_pos ⟨hk, hl⟩]
  by_cases c : bk_h β = 6
  · rw [c, if_pos (show nI 6 = 6 from rfl)]
    left
    refine W_bad P (f := 3) (by decide) (by decide) (by omega) (fun S1 Q => ?_) (PM_bad (f := 3) M (Or.inr (by omega)))
    rw [tw S1 Q]
    unfold fX3_takeHome
    rw [Q.2.2.2.2.2.1.2.2.1, c, if_neg (show ¬ nI 6 < (6 : Int32) by decide)]
    rfl
  · rw [if_neg (show ¬ nI (bk_h β) = (6 : Int32) from fun z => c ((nI_eq (b := 6) (by omega) (by decide)).mp z))]
    obtain ⟨T1, e1, M1, _⟩ := PM_go M
    have e1'' : st_a T1 2 1 = nI (bk_h β) := M1.2.2.1.2.2.1
    obtain ⟨S1, Q, _, hCR⟩ := C_it P
    obtain ⟨S2, d1, B2, g2⟩ := c_addHome Q.2.2.2.2.2.1 (by omega)
    have tk : fX3_take S1 = some (0, st_si S2 52 (nI 6)) := by
      rw [take_w Q (by omega), tw S1 Q]
      unfold fX3_takeHome
      rw [Q.2.2.2.2.2.1.2.2.1, if_pos (show nI (bk_h β) < (6 : Int32) from nI_lt (b := 6) (by omega) (by decide)), ob_2t d1]
      rfl
    have fy : fY S1 (st_si S2 52 (nI 6)) := fr_tr (fr_mo g2 (fun _ z => by omega) (fun _ z => z) (fun _ z => by omega) (fun _ z => z)) (fr_si (by omega))
    have f52 : fY0 S2 (st_si S2 52 (nI 6)) := fr_si (by omega)
    have P2 := PS_ok (β' := bk_home β) (d' := 6) (ln' := ln) Q (by omega) fy (cB_0 B2 f52) hc (by rw [st_i_ne (by decide), g2.1 47 (by omega)]; exact Q.2.2.2.2.2.2.2.1) (by have := Q.2.2.2.2.1; omega) st_i_eq
    have M2 := PM_row (k := 1) (v := nI (bk_h β + 1)) M1 (m_home2 M1.2.2.1 (by omega)) rfl
    rw [ob_1t e1, ob_in_t (in1 (by decide)), ob_in_t (in1 (by decide)), e1'', nI_1]
    rcases SIM_end P2 M2 with hb | ⟨S', T', e, z1, z2, z3, z4, z5⟩
    · left
      obtain ⟨f, b, S', T', w1, w2, w3⟩ := hb
      refine ⟨f, b, S', T', by rw [hCR _ _ tk]; exact w1, ?_, w3⟩
      rw [ob_2t w2]
    · right
      refine ⟨S', T', _, e, _, by rw [hCR _ _ tk]; exact z1, ?_, z3, z4, by omega, by show bk_h β + 1 ≠ 0; omega⟩
      rw [ob_2t z2]
/-! words as numbers -/
theorem four_h : fX5_four 104 111 109 101 S = some (lN (wh 2), S) := by
  have e : ((729 : Int64) * ((((27 : Int64) * ((104 : Int32).toInt64 - (96 : Int64))) + (111 : Int32).toInt64) - (96 : Int64))) + ((((27 : Int64) * ((109 : Int32).toInt64 - (96 : Int64))) + (101 : Int32).toInt64) - (96 : Int64)) = lN (wh 2) := by decide
  show some (_, S) = _
  rw [← e]
theorem four_s : fX5_four 115 97 108 101 S = some (lN (wh 3), S) := by
  have e : ((729 : Int64) * ((((27 : Int64) * ((115 : Int32).toInt64 - (96 : Int64))) + (97 : Int32).toInt64) - (96 : Int64))) + ((((27 : Int64) * ((108 : Int32).toInt64 - (96 : Int64))) + (101 : Int32).toInt64) - (96 : Int64)) = lN (wh 3) := by decide
  show some (_, S) = _
  rw [← e]
theorem four_w : ∃ r, fX5_four 119 101 105 103 S = some (r, S) ∧ (27 : Int64) * r + 8 = lN (wh 1) := by
  have e : ((729 : Int64) * ((((27 : Int64) * ((119 : Int32).toInt64 - (96 : Int64))) + (101 : Int32).toInt64) - (96 : Int64))) + ((((27 : Int64) * ((105 : Int32).toInt64 - (96 : Int64))) + (103 : Int32).toInt64) - (96 : Int64)) = lN 456604 := by decide
  refine ⟨lN 456604, ?_, by decide⟩
  show some (_, S) = _
  rw [← e]
theorem four_m : ∃ r q, fX5_four 109 111 110 116 S = some (r, S) ∧ fX5_two 104 115 S = some (q, S) ∧ (729 : Int64) * r + q = lN (wh 0) := by
  have e : ((729 : Int64) * ((((27 : Int64) * ((109 : Int32).toInt64 - (96 : Int64))) + (111 : Int32).toInt64) - (96 : Int64))) + ((((27 : Int64) * ((110 : Int32).toInt64 - (96 : Int64))) + (116 : Int32).toInt64) - (96 : Int64)) = lN 267212 := by decide
  have e2 : (((27 : Int64) * ((104 : Int32).toInt64 - (96 : Int64))) + (115 : Int32).toInt64) - (96 : Int64) = lN 235 := by decide
  refine ⟨lN 267212, lN 235, ?_, ?_, by decide⟩
  · show some (_, S) = _
    rw [← e]
  · show some (_, S) = _
    rw [← e2]
/-- what a text comes to -/
def WJ (S0 T0 : RSt) (o1 : Option RSt) (o2 : Option (Int32 × RSt)) : Prop := BJ S0 T0 o1 o2 ∨ ∃ S' T' β' ln', o1 = some S' ∧ o2 = some (1, T') ∧ ln' ≤ 600 ∧ st_i S' 46 = 0 ∧ cB S' 2 β' ∧ bk_c β' ≤ 18 ∧ st_i S' 47 = nI ln' ∧ mB T' 2 0 β' ∧ st_i T' 12 = nI ln' ∧ fX S0 S' ∧ gX0 T0 T'
theorem PM_ln (M : PM T0 T y L β ln p) : PM T0 (st_si T 12 (st_i T 12 + 1)) y L β (ln + 1) p := by
  obtain ⟨h0, h1, h2, h3, h4, h5, h6⟩ := M
  have f : fr (fun k => k = 12) no no no T (st_si T 12 (st_i T 12 + 1)) := fr_si rfl
  refine ⟨h0, tp2_fr h1 f (by decide) (fun z => z), mB_fr h2 f (fun z => z), by rw [st_i_ne (by decide)]; exact h3, by rw [st_i_eq, h4, nI_1], ?_, fr_tr h6 (fr_mo f (fun _ z => by omega) (fun _ z => z.elim) (fun _ z => z.elim) (fun _ z => z))⟩
  obtain ⟨k1, k2, k3, k4, k5, k6, k7, k8⟩ := h5
  refine ⟨by rw [st_i_ne (by decide)]; exact k1, by rw [st_i_ne (by decide)]; exact k2, by rw [st_i_ne (by decide)]; exact k3, by rw [st_i_ne (by decide)]; exact k4, by rw [st_i_ne (by decide)]; exact k5, by rw [st_i_ne (by decide)]; exact k6, fun z => by rw [st_i_ne (by decide)]; exact k7 z, fun w hw => ?_⟩
  have q := k8 w hw
  unfold fX5_isWord at q ⊢
  rw [st_i_ne (by decide), st_j_si]
  split at q
  · rw [if_pos (by assumption)]
    split at q
    · rw [if_pos (by assumption)]
      have := congrArg (Option.map Prod.fst) q
      have : some (1 : Int32) = some (if (tkD y L p).1 = 4 + w then 1 else 0) := this
      rw [← Option.some.inj this]
    · rw [if_neg (by assumption)]
      have := congrArg (Option.map Prod.fst) q
      have : some (0 : Int32) = some (if (tkD y L p).1 = 4 + w then 1 else 0) := this
      rw [← Option.some.inj this]
  · rw [if_neg (by assumption)]
    have := congrArg (Option.map Prod.fst) q
    have : some (0 : Int32) = some (if (tkD y L p).1 = 4 + w then 1 else 0) := this
    rw [← Option.some.inj this]
def zO (Z : RSt ⊕ (RSt ⊕ RSt)) : Option (Int32 × RSt) := ob_s3 Z (fun S_65 => (ob_2 (fX5_bad (1 : Int32) S_65) fun r_68 S_69 => (some (r_68, S_69)))) (fun S_71 => (some ((0 : Int32), S_71))) (fun S_73 => (some ((1 : Int32), S_73)))
theorem SIM_items : ∀ (f : Nat) (S T : RSt) (β : BK) (ln p x : Nat), PC S0 S y L β 0 ln p x → PM T0 T y L β ln p → ln ≠ 0 → (bk_h β = 0 → (tkD y L p).1 ≠ 5) → L - p < f → ∃ Z, fX5_readWhole_L67 f T = some Z ∧ WJ S0 T0 (CR x S) (zO Z)
  | 0, _, _, _, _, _, _, _, _, _, _, h => absurd h (Nat.not_lt_zero _)
  | f + 1, S, T, β, ln, p, x, P, M, hl, h5, hf => by
    have K := M.2.2.2.2.2.1
    have e1' : st_a T 2 1 = nI (bk_h β) := M.2.2.1.2.2.1
    have h6 := M.2.2.1.1.2.2.1
    rw [fX5_readWhole_L67]
    by_cases c0 : st_i T 5 = 0
    · obtain ⟨k0, hL5⟩ := K.2.2.2.2.1.mp c0
      rw [if_pos c0]
      refine ⟨_, rfl, Or.inr ?_⟩
      obtain ⟨S1, Q, _, hCR⟩ := C_it P
      have h50 : st_i S1 50 = nI 0 := by rw [Q.2.2.2.2.2.2.2.2.2.2.1.1, k0]
      have h52 : st_i S1 52 = nI 0 := Q.2.2.2.2.2.2.2.2.1
      have h47 : st_i S1 47 = nI ln := Q.2.2.2.2.2.2.2.1
      have h45 : st_i S1 45 = nI L := Q.1.2.2.1
      have hx := Q.2.2.2.1
      have hln := Q.2.2.2.2.1
      have tk : fX3_take S1 = some (0, S1) := by
        unfold fX3_take
        rw [h50, if_pos (show nI 0 = 0 from rfl), h52, if_pos (show nI 0 = 0 from rfl), h47, h45, if_neg (nI_nle (by omega) (by omega)), if_neg (show ¬ (500 : Int32) < nI L from nI_nlt (a := 500) hL5 (by decide))]
      have f46 : fr (fun k => k = 46) no no no S1 (st_si S1 46 0) := fr_si rfl
      refine ⟨st_si S1 46 0, T, β, ln, ?_, rfl, by omega, st_i_eq, cB_fr Q.2.2.2.2.2.1 f46 (by omega) (by omega) (by omega) (fun z => z) (fun z => z), Q.2.2.2.2.2.2.1, by rw [st_i_ne (by decide)]; exact h47, M.2.2.1, M.2.2.2.2.1, fr_tr Q.2.2.2.2.2.2.2.2.2.2.2 (fr_si (by omega)), M.2.2.2.2.2.2⟩
      rw [hCR _ _ tk]
      exact C_halt (by omega) (Or.inl (by rw [st_i_ne (by decide)]; exact h50))
    · have nk0 : (tkD y L p).1 = 0 → ln = 0 ∨ 500 < L := fun z => by
        by_cases w : L ≤ 500
        · exact absurd (K.2.2.2.2.1.mpr ⟨z, w⟩) c0
        · omega
      have no1 : (tkD y L p).1 ≠ 6 → ((tkD y L p).1 = 7 → bk_h β = 0) → WJ S0 T0 (CR x S) (zO (.inl T)) := fun k6 k7 => Or.inl (W_no P nk0 (fun _ => hl) (fun z => Or.inr (fun w => h5 w z)) (fun z => absurd z k6) k7 (PM_bad (f := 1) M (Or.inl rfl)))
      have next : ∀ (o : Option (Int32 × RSt)), LJ S0 T0 y L (fun β' => bk_h β' ≠ 0) ln p x S o → ∃ Z, (ob_2 o fun r S_42 => (if r = 0 then some (.inr (.inl S_42)) else fX5_readWhole_L67 f (st_si S_42 12 ((st_i S_42 12) + (1 : Int32))))) = some Z ∧ WJ S0 T0 (CR x S) (zO Z) := fun o ho => by
        rcases ho with hb | ⟨S', T', β', e, x', z1, z2, z3, z4, z5, z6⟩
        · obtain ⟨f', b, S', T', w1, w2, w3⟩ := hb
          rw [ob_2t w2, if_pos rfl]
          exact ⟨_, rfl, Or.inl ⟨f', b, S', T', w1, rfl, w3⟩⟩
        · rw [ob_2t z2, if_neg ne0, z1]
          exact SIM_items f S' _ β' (ln + 1) e x' z3 (PM_ln z4) (by omega) (fun w => absurd w z6) (by have := z4.1; omega)
      rw [if_neg c0, ob_2t four_h, ob_2t (K.2.2.2.2.2.2.2 2 (by decide))]
      by_cases k6 : (tkD y L p).1 = 6
      · rw [if_pos (show (tkD y L p).1 = 4 + 2 from k6)]
        exact next _ (SIM_H P M k6 hl)
      · rw [if_neg (show ¬ (tkD y L p).1 = 4 + 2 from k6), ob_jp rfl, ob_in_t (in1 (by decide)), cl1, e1']
        by_cases hh : bk_h β = 0
        · rw [hh, if_pos (show nI 0 = 0 from rfl)]
          exact ⟨_, rfl, no1 k6 (fun _ => hh)⟩
        · rw [if_neg (nI_ne0 (by omega) (by omega)), ob_2t four_s, ob_2t (K.2.2.2.2.2.2.2 3 (by decide))]
          by_cases k7 : (tkD y L p).1 = 7
          · rw [if_pos (show (tkD y L p).1 = 4 + 3 from k7), if_neg ne0]
            exact next _ (SIM_S P M k7 hl hh)
          · rw [if_neg (show ¬ (tkD y L p).1 = 4 + 3 from k7), if_pos rfl]
            exact ⟨_, rfl, no1 k6 (fun z => absurd z k7)⟩
def zW (Z : RSt ⊕ RSt) : Option (Int32 × RSt) := ob_s2 Z (fun S_22 => (some ((0 : Int32), S_22))) (fun S_24 => (ob_1 (fX5_readWhole_L67 1000  S_24) fun Z_64 => ob_s3 Z_64 (fun S_65 => (ob_2 (fX5_bad (1 : Int32) S_65) fun r_68 S_69 => (some (r_68, S_69)))) (fun S_71 => (some ((0 : Int32), S_71))) (fun S_73 => (some ((1 : Int32), S_73)))))
theorem SIM_weighs : ∀ (f : Nat) (S T : RSt) (β : BK) (ln p x : Nat), PC S0 S y L β 0 ln p x → PM T0 T y L β ln p → ln ≠ 0 → bk_h β = 0 → L - p < f → ∃ Z, fX5_readWhole_L19 f T = some Z ∧ WJ S0 T0 (CR x S) (zW Z)
  | 0, _, _, _, _, _, _, _, _, _, _, h => absurd h (Nat.not_lt_zero _)
  | f + 1, S, T, β, ln, p, x, P, M, hl, hh, hf => by
    have K := M.2.2.2.2.2.1
    obtain ⟨r, q1, q2⟩ := four_w (S := T)
    rw [fX5_readWhole_L19, ob_2t q1, q2, ob_2t (K.2.2.2.2.2.2.2 1 (by decide))]
    by_cases k5 : (tkD y L p).1 = 5
    · rw [if_pos (show (tkD y L p).1 = 4 + 1 from k5), if_neg ne0]
      rcases SIM_W P M k5 hl hh with hb | ⟨S', T', β', e, x', z1, z2, z3, z4, z5, z6⟩
      · obtain ⟨f', b, S', T', w1, w2, w3⟩ := hb
        rw [ob_2t w2, if_pos rfl]
        exact ⟨_, rfl, Or.inl ⟨f', b, S', T', w1, rfl, w3⟩⟩
      · rw [ob_2t z2, if_neg ne0, z1]
        exact SIM_weighs f S' _ β' (ln + 1) e x' z3 (PM_ln z4) (by omega) z6 (by have := z4.1; omega)
    · rw [if_neg (show ¬ (tkD y L p).1 = 4 + 1 from k5), if_pos rfl]
      have hL := M.2.1.1
      obtain ⟨Z, e, h⟩ := SIM_items 1000 S T β ln p x P M hl (fun _ => k5) (by omega)
      refine ⟨_, rfl, ?_⟩
      show WJ S0 T0 (CR x S) (ob_1 (fX5_readWhole_L67 1000 T) _)
      rw [ob_1t e]
      exact h
/-! The first line. -/
def PM0 (T0 T : RSt) (y : Nat → Nat) (L p : Nat) : Prop := p ≤ L ∧ tp2 T y L ∧ (∀ k, k < 58 → st_a T 2 k = 0) ∧ st_i T 11 = 0 ∧ st_i T 12 = 0 ∧ mtk T L (tkD y L p) ∧ gX0 T0 T
theorem PM0_bad (M : PM0 T0 T y L p) {f : Nat} (hf : f = 1 ∨ (tkD y L p).1 ≠ 0 ∧ (tkD y L p).1 ≠ 1) : MB T0 y L p f (ob_2 (fX5_bad (nI f) T) fun r S => some (r, S)) := by
  have K := M.2.2.2.2.2.1
  obtain ⟨T', b1, b2, b3, b4⟩ := m_bad (w := f) _ K M.2.2.2.2.2.2 (hf.imp id (fun z w => by have := K.2.2.2.2.2.1 w; omega))
  rw [ob_2t b1]
  exact ⟨T', rfl, b2, b3, b4⟩
theorem PM0_go (M : PM0 T0 T y L p) {v : Int32} : ∃ T', fX5_go (st_si T 10 v) = some T' ∧ PM0 T0 T' y L (tkD y L p).2.2.1 ∧ st_i T' 10 = v := by
  obtain ⟨h0, h1, h2, h3, h4, h5, h6⟩ := M
  have hp := (tk_b (y := y) h0).2.2.1
  have f10 : fr (fun k => k = 10) no no no T (st_si T 10 v) := fr_si rfl
  obtain ⟨T', e, k, f⟩ := m_go (tp2_fr h1 f10 (by decide) (fun z => z)) hp (by rw [st_i_ne (by decide)]; exact h5.1)
  have F := fr_tr (fr_mo f10 (fun _ z => Or.inl z) (fun _ z => z.elim) (fun _ z => z) (fun _ z => z)) (fr_mo (I' := fun k => k = 10 ∨ (3 ≤ k ∧ k < 7)) (J' := fun k => k = 0) f (fun _ z => Or.inr z) (fun _ z => z) (fun _ z => z) (fun _ z => z))
  exact ⟨T', e, ⟨hp, tp2_fr h1 F (by omega) (fun z => z), fun k hk => by rw [F.2.2.1 2 (fun z => z)]; exact h2 k hk, by rw [F.1 _ (by omega)]; exact h3, by rw [F.1 _ (by omega)]; exact h4, k, fr_tr h6 (fr_mo F (fun _ z => by omega) (fun _ z => z) (fun _ z => z.elim) (fun _ z => z))⟩, by rw [f.1 10 (by omega), st_i_eq]⟩
theorem si_id {k : Nat} : st_si S k (st_i S k) = S := by
  unfold st_si st_i
  rw [up_id]
theorem SIM_months (P : PC S0 S y L (bk_0 2) 0 0 p x) (M : PM0 T0 T y L p) : BJ S0 T0 (CR x S) (fX5_readMonths T) ∨ ∃ S' T' β' e x', CR x S = CR x' S' ∧ fX5_readMonths T = some (1, T') ∧ PC S0 S' y L β' 0 1 e x' ∧ PM T0 T' y L β' 0 e ∧ bk_h β' = 0 := by
  have K := M.2.2.2.2.2.1
  obtain ⟨r, q, q1, q2, q3⟩ := four_m (S := T)
  unfold fX5_readMonths
  rw [ob_2t q1, ob_2t q2, q3, ob_2t (K.2.2.2.2.2.2.2 0 (by decide))]
  by_cases k4 : (tkD y L p).1 = 4
  · rw [if_pos (show (tkD y L p).1 = 4 + 0 from k4), if_neg ne0]
    obtain ⟨S', c1, P1⟩ := W_it P (n := 1) (by decide) (by omega) (fun S1 Q => by
      rw [tw_val Q, if_pos ⟨k4, rfl⟩]
      rfl)
    obtain ⟨T1, e1, M1, _⟩ := PM0_go M (v := st_i T 10)
    rw [si_id] at e1
    rw [ob_1t e1]
    have K1 := M1.2.2.2.2.2.1
    have tb := tk_b (y := y) M1.1
    generalize (tkD y L p).2.2.1 = p1 at *
    by_cases k2 : (tkD y L p1).1 = 2
    · have v9 := tb.2.2.2.2.2.1 k2
      have e6 := K1.2.2.2.2.2.2.1 k2
      by_cases hv : 2 ≤ (tkD y L p1).2.2.2 ∧ (tkD y L p1).2.2.2 ≤ 8
      · obtain ⟨T2, e2, M2, e10⟩ := PM0_go M1 (v := nI (tkD y L p1).2.2.2)
        have ei : fX5_isIn (nI (tkD y L p1).2.2.2) 2 8 T1 = some (1, T1) := by
          unfold fX5_isIn
          rw [if_neg (show ¬ nI (tkD y L p1).2.2.2 < (2 : Int32) from nI_nlt (b := 2) hv.1 (by omega)), if_neg (show ¬ (8 : Int32) < nI (tkD y L p1).2.2.2 from nI_nlt (a := 8) hv.2 (by decide))]
        have et : fX5_takes 2 8 T1 = some (1, T2) := by
          unfold fX5_takes
          rw [if_pos (K1.2.2.1.mpr k2), e6, ob_2t ei, if_neg ne0, e6, ob_1t e2]
        obtain ⟨S1, Q, q53, q51, h⟩ := NUM_ok P1 (by omega) k2
        have B := Q.2.2.2.2.2.1
        have tn : fX3_takeNumber S1 = some (0, st_si (st_si S1 (3 * 2) (nI (tkD y L p1).2.2.2)) 52 (nI 6)) := by
          rw [(tn_d Q).1 rfl]
          unfold fX3_takeMonths
          rw [q51, if_neg (show ¬ nI (tkD y L p1).2.2.2 < (2 : Int32) from nI_nlt (b := 2) hv.1 (by omega)), if_pos (show nI (tkD y L p1).2.2.2 ≤ (8 : Int32) from nI_le (b := 8) hv.2 (by decide))]
          rfl
        obtain ⟨ht, hCR⟩ := h _ _ tn
        have fy : fY S1 (st_si (st_si S1 (3 * 2) (nI (tkD y L p1).2.2.2)) 52 (nI 6)) := fr_tr (fr_si (by omega)) (fr_si (by omega))
        have B' : cB (st_si (st_si S1 (3 * 2) (nI (tkD y L p1).2.2.2)) 52 (nI 6)) 2 (bk_0 (tkD y L p1).2.2.2) := ⟨bk_0ok hv.1 hv.2, by rw [st_i_ne (by decide), st_i_eq]; rfl, by rw [st_i_ne (by decide), st_i_ne (by decide)]; exact B.2.2.1, by rw [st_i_ne (by decide), st_i_ne (by decide)]; exact B.2.2.2.1, B.2.2.2.2.1, B.2.2.2.2.2⟩
        have P2 := PS_ok (β' := bk_0 (tkD y L p1).2.2.2) (d' := 6) (ln' := 0) Q (by omega) fy B' (by show ct (fun _ => 0) 48 ≤ 18; rw [ct_0]; omega) (by rw [st_i_ne (by decide), st_i_ne (by decide)]; exact Q.2.2.2.2.2.2.2.1) (by omega) st_i_eq
        have Bm : mB (st_sa T2 2 0 (nI (tkD y L p1).2.2.2)) 2 0 (bk_0 (tkD y L p1).2.2.2) := ⟨bk_0ok hv.1 hv.2, sa_p rfl rfl, by rw [sa_n (Or.inr (by omega)), M2.2.2.1 _ (by show _ < 58; omega)]; rfl, fun g hg => by rw [sa_n (Or.inr (by omega)), M2.2.2.1 _ (by show _ < 58; omega)]; rfl, fun k hk => by rw [sa_n (Or.inr (by omega)), M2.2.2.1 _ (by show _ < 58; omega)]; rfl⟩
        have M3 : PM T0 (st_sa T2 2 0 (nI (tkD y L p1).2.2.2)) y L (bk_0 (tkD y L p1).2.2.2) 0 (tkD y L p1).2.2.1 := by
          obtain ⟨h0, h1, h2, h3, h4, h5, h6⟩ := M2
          have f : fr no no (fun a => a = 2) no T2 (st_sa T2 2 0 (nI (tkD y L p1).2.2.2)) := fr_sa rfl
          refine ⟨h0, tp2_fr h1 f (fun z => z) (by decide), Bm, by rw [st_i_sa, h3]; show 0 = nI (ct (fun _ => 0) 48); rw [ct_0]; rfl, h4, ?_, fr_tr h6 (fr_mo f (fun _ z => z.elim) (fun _ z => z.elim) (fun _ z => z) (fun _ z => z))⟩
          obtain ⟨k1, k2, k3, k4, k5, k6, k7, k8⟩ := h5
          refine ⟨k1, k2, k3, k4, k5, k6, k7, fun w hw => ?_⟩
          have q := k8 w hw
          unfold fX5_isWord at q ⊢
          rw [st_i_sa, st_j_sa]
          split at q
          · rw [if_pos (by assumption)]
            split at q
            · rw [if_pos (by assumption)]
              have := congrArg (Option.map Prod.fst) q
              have : some (1 : Int32) = some (if (tkD y L (tkD y L p1).2.2.1).1 = 4 + w then 1 else 0) := this
              rw [← Option.some.inj this]
            · rw [if_neg (by assumption)]
              have := congrArg (Option.map Prod.fst) q
              have : some (0 : Int32) = some (if (tkD y L (tkD y L p1).2.2.1).1 = 4 + w then 1 else 0) := this
              rw [← Option.some.inj this]
          · rw [if_neg (by assumption)]
            have := congrArg (Option.map Prod.fst) q
            have : some (0 : Int32) = some (if (tkD y L (tkD y L p1).2.2.1).1 = 4 + w then 1 else 0) := this
            rw [← Option.some.inj this]
        rw [ob_2t et, if_neg ne0, ob_in_t (in0 (by decide)), cl0, e10]
        rcases SIM_end P2 M3 with hb | ⟨S', T', e, z1, z2, z3, z4, z5⟩
        · left
          obtain ⟨f, b, S', T', w1, w2, w3⟩ := hb
          refine ⟨f, b, S', T', by rw [c1, hCR]; exact w1, ?_, w3⟩
          rw [ob_2t w2]
        · right
          refine ⟨S', T', _, e, _, by rw [c1, hCR]; exact z1, ?_, z3, z4, rfl⟩
          rw [ob_2t z2]
      · left
        rw [c1]
        have mb : MB T0 y L p1 2 (fX5_takes 2 8 T1) := by
          have ei : fX5_isIn (nI (tkD y L p1).2.2.2) 2 8 T1 = some (0, T1) := by
            unfold fX5_isIn
            by_cases c : (tkD y L p1).2.2.2 < 2
            · rw [if_pos (show nI (tkD y L p1).2.2.2 < (2 : Int32) from nI_lt (b := 2) c (by decide))]
            · rw [if_neg (show ¬ nI (tkD y L p1).2.2.2 < (2 : Int32) from nI_nlt (b := 2) (by omega) (by omega)), if_pos (show (8 : Int32) < nI (tkD y L p1).2.2.2 from nI_lt (a := 8) (by omega) (by omega))]
          unfold fX5_takes
          rw [if_pos (K1.2.2.1.mpr k2), e6, ob_2t ei, if_pos rfl]
          exact PM0_bad (f := 2) M1 (Or.inr (by omega))
        obtain ⟨T2, b1, b2⟩ := mb
        refine NUM_b2 P1 (by omega) k2 (T0 := T0) ?_ (fun S1 Q q51 q53 => ?_)
        · rw [ob_2t b1, if_pos rfl]
          exact ⟨T2, rfl, b2⟩
        · rw [(tn_d Q).1 rfl]
          unfold fX3_takeMonths
          rw [q51]
          by_cases c : (tkD y L p1).2.2.2 < 2
          · rw [if_pos (show nI (tkD y L p1).2.2.2 < (2 : Int32) from nI_lt (b := 2) c (by decide))]
          · rw [if_neg (show ¬ nI (tkD y L p1).2.2.2 < (2 : Int32) from nI_nlt (b := 2) (by omega) (by omega)), if_neg (show ¬ nI (tkD y L p1).2.2.2 ≤ (8 : Int32) from nI_ge (a := 8) (by omega) (by omega))]
    · left
      rw [c1]
      have mb : MB T0 y L p1 1 (fX5_takes 2 8 T1) := by
        unfold fX5_takes
        rw [if_neg (fun z => k2 (K1.2.2.1.mp z))]
        exact PM0_bad (f := 1) M1 (Or.inl rfl)
      obtain ⟨T2, b1, b2⟩ := mb
      refine NUM_bad P1 (by omega) k2 (T0 := T0) ?_
      rw [ob_2t b1, if_pos rfl]
      exact ⟨T2, rfl, b2⟩
  · rw [if_neg (show ¬ (tkD y L p).1 = 4 + 0 from k4), if_pos rfl]
    left
    exact W_no P (fun _ => Or.inl rfl) (fun z => absurd z k4) (fun _ => Or.inl rfl) (fun _ => rfl) (fun _ => rfl) (PM0_bad (f := 1) M (Or.inl rfl))
theorem SIM_whole (P : PC S0 S y L (bk_0 2) 0 0 p x) (M : PM0 T0 T y L p) : WJ S0 T0 (CR x S) (fX5_readWhole T) := by
  have hL := M.2.1.1
  unfold fX5_readWhole
  rcases SIM_months P M with hb | ⟨S', T', β', e, x', z1, z2, z3, z4, z6⟩
  · obtain ⟨f', b, S', T', w1, w2, w3⟩ := hb
    rw [ob_2t w2, if_pos rfl]
    exact Or.inl ⟨f', b, S', T', w1, rfl, w3⟩
  · obtain ⟨Z, h1, h2⟩ := SIM_weighs 1000 S' (st_si T' 12 (st_i T' 12 + 1)) β' 1 e x' z3 (PM_ln z4) (by decide) z6 (by omega)
    rw [ob_2t z2, if_neg ne0, ob_1t h1, z1]
    exact h2
end TXT
