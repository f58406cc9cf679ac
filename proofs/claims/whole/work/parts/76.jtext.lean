/-! text, both sides at once. -/
section JTX
variable {S S1 S2 : RSt} {σ : AS}
theorem m_zeroRow : ∃ S', fX5_text_L40 1000 0 S = some S' ∧ (∀ k, k < 58 → st_a S' 2 k = 0) ∧ fr no no (fun a => a = 2) no S S' := by
  obtain ⟨s, e, h1, h2⟩ := lp_up (fun f i s => fX5_text_L40 f (nI i) s) (fun i s => (∀ k, k < i → st_a s 2 k = 0) ∧ fr no no (fun a => a = 2) no S s) 58 (fun s => (∀ k, k < 58 → st_a s 2 k = 0) ∧ fr no no (fun a => a = 2) no S s)
    (fun f s hs => ⟨s, by
      show fX5_text_L40 (f + 1) (nI 58) s = some s
      rw [fX5_text_L40, if_pos (show (58 : Int32) ≤ nI 58 by decide)], hs⟩)
    (fun f i s hi hs => Or.inr (by
      show ∃ s', _ ∧ fX5_text_L40 (f + 1) (nI i) s = fX5_text_L40 f (nI (i + 1)) s'
      rw [fX5_text_L40, if_neg (show ¬ (58 : Int32) ≤ nI i from nI_ge (b := 58) hi (by decide)), ob_in_t (vp_in_nI hi (by decide)), nI_clamp (by omega), nI_1]
      refine ⟨_, ⟨fun k hk => ?_, fr_tr hs.2 (fr_sa rfl)⟩, rfl⟩
      by_cases c : k = i
      · rw [sa_p rfl c]
      · rw [sa_n (Or.inr c), hs.1 k (by omega)]))
    58 0 1000 S (by omega) (by omega) ⟨fun k hk => absurd hk (Nat.not_lt_zero k), fr_rf⟩
  exact ⟨s, e, h1, h2⟩
theorem m_copyRow : ∃ S', fX5_text_L79 1000 0 S = some S' ∧ (∀ k, k < 58 → st_a S' 1 k = st_a S 2 k) ∧ fr no no (fun a => a = 1) no S S' := by
  obtain ⟨s, e, h1, h2⟩ := lp_up (fun f i s => fX5_text_L79 f (nI i) s) (fun i s => (∀ k, k < i → st_a s 1 k = st_a S 2 k) ∧ fr no no (fun a => a = 1) no S s) 58 (fun s => (∀ k, k < 58 → st_a s 1 k = st_a S 2 k) ∧ fr no no (fun a => a = 1) no S s)
    (fun f s hs => ⟨s, by
      show fX5_text_L79 (f + 1) (nI 58) s = some s
      rw [fX5_text_L79, if_pos (show (58 : Int32) ≤ nI 58 by decide)], hs⟩)
    (fun f i s hi hs => Or.inr (by
      show ∃ s', _ ∧ fX5_text_L79 (f + 1) (nI i) s = fX5_text_L79 f (nI (i + 1)) s'
      rw [fX5_text_L79, if_neg (show ¬ (58 : Int32) ≤ nI i from nI_ge (b := 58) hi (by decide)), ob_in_t (vp_in_nI hi (by decide)), ob_in_t (vp_in_nI hi (by decide)), nI_clamp (by omega), nI_1, hs.2.2.2.1 2 (by decide)]
      refine ⟨_, ⟨fun k hk => ?_, fr_tr hs.2 (fr_sa rfl)⟩, rfl⟩
      by_cases c : k = i
      · rw [sa_p rfl c, c]
      · rw [sa_n (Or.inr c), hs.1 k (by omega)]))
    58 0 1000 S (by omega) (by omega) ⟨fun k hk => absurd hk (Nat.not_lt_zero k), fr_rf⟩
  exact ⟨s, e, h1, h2⟩
theorem J_text (J : JJ S1 S2 σ) : JR (fX4_text S1) (fX5_text S2) := by
  obtain ⟨I, M, F⟩ := J
  obtain ⟨t1, t2, t3, t4, t5, t6⟩ := I.2.2
  obtain ⟨u1, u2, u3⟩ := M.2.2
  -- the landed side begins
  obtain ⟨A, d1, B1, g1⟩ := c_reset (n := 2) (by decide) (by decide) S1 2
  have fA : fX S1 (st_si (st_si (st_si (st_si (st_si A 47 0) 49 0) 52 0) 46 0) 50 1) := fr_tr (fr_mo g1 (fun _ z => by omega) (fun _ z => z) (fun _ z => by omega) (fun _ z => z)) (fr_tr (fr_tr (fr_tr (fr_tr (fr_si (by omega)) (fr_si (by omega))) (fr_si (by omega))) (fr_si (by omega))) (fr_si (by omega)))
  have fA2 : fr (fun k => 46 ≤ k ∧ k < 54) no no no A (st_si (st_si (st_si (st_si (st_si A 47 0) 49 0) 52 0) 46 0) 50 1) := fr_tr (fr_tr (fr_tr (fr_tr (fr_si (by omega)) (fr_si (by omega))) (fr_si (by omega))) (fr_si (by omega))) (fr_si (by omega))
  have tpA : tp1 (st_si (st_si (st_si (st_si (st_si A 47 0) 49 0) 52 0) 46 0) 50 1) (as_y σ) (as_l σ) := tp1_fr (S := S1) ⟨t1, t3, t2, t4⟩ fA (by omega) (by omega)
  have PA : PC S1 (st_si (st_si (st_si (st_si (st_si A 47 0) 49 0) 52 0) 46 0) 50 1) (as_y σ) (as_l σ) (bk_0 2) 0 0 0 0 := ⟨tpA, Nat.zero_le _, Nat.le_refl _, by omega, Nat.le_refl _, cB_fr B1 fA2 (by omega) (by omega) (by omega) (fun z => z) (fun z => z), by show ct (fun _ => 0) 48 ≤ 18; rw [ct_0]; omega, by rw [st_i_ne (by decide), st_i_ne (by decide), st_i_ne (by decide), st_i_ne (by decide), st_i_eq]; rfl, by rw [st_i_ne (by decide), st_i_ne (by decide), st_i_eq]; rfl, by rw [st_i_ne (by decide), st_i_eq], by rw [st_i_ne (by decide), st_i_ne (by decide), st_i_ne (by decide), st_i_eq]; rfl, by rw [st_i_eq]; exact ne0, fA⟩
  -- the reference begins
  have M0 := mI_t M 0
  have fR : fr (fun k => k = 0 ∨ k = 1 ∨ k = 2 ∨ k = 7 ∨ k = 3 ∨ k = 11 ∨ k = 12) no no no S2 (st_si (st_si (st_si (st_si (st_si (st_si (st_si S2 0 0) 2 (st_i (st_si S2 0 0) 1)) 1 0) 7 0) 3 0) 11 0) 12 0) := fr_tr (fr_tr (fr_tr (fr_tr (fr_tr (fr_tr (fr_si (by omega)) (fr_si (by omega))) (fr_si (by omega))) (fr_si (by omega))) (fr_si (by omega))) (fr_si (by omega))) (fr_si (by omega))
  have r1 : st_i (st_si (st_si (st_si (st_si (st_si (st_si (st_si S2 0 0) 2 (st_i (st_si S2 0 0) 1)) 1 0) 7 0) 3 0) 11 0) 12 0) 1 = 0 := by rw [st_i_ne (by decide), st_i_ne (by decide), st_i_ne (by decide), st_i_ne (by decide), st_i_eq]
  have r2 : st_i (st_si (st_si (st_si (st_si (st_si (st_si (st_si S2 0 0) 2 (st_i (st_si S2 0 0) 1)) 1 0) 7 0) 3 0) 11 0) 12 0) 2 = nI (as_l σ) := by rw [st_i_ne (by decide), st_i_ne (by decide), st_i_ne (by decide), st_i_ne (by decide), st_i_ne (by decide), st_i_eq, st_i_ne (by decide)]; exact u1
  have r7 : st_i (st_si (st_si (st_si (st_si (st_si (st_si (st_si S2 0 0) 2 (st_i (st_si S2 0 0) 1)) 1 0) 7 0) 3 0) 11 0) 12 0) 7 = 0 := by rw [st_i_ne (by decide), st_i_ne (by decide), st_i_ne (by decide), st_i_eq]
  have r3 : st_i (st_si (st_si (st_si (st_si (st_si (st_si (st_si S2 0 0) 2 (st_i (st_si S2 0 0) 1)) 1 0) 7 0) 3 0) 11 0) 12 0) 3 = nI 0 := by rw [st_i_ne (by decide), st_i_ne (by decide), st_i_eq]; rfl
  have r11 : st_i (st_si (st_si (st_si (st_si (st_si (st_si (st_si S2 0 0) 2 (st_i (st_si S2 0 0) 1)) 1 0) 7 0) 3 0) 11 0) 12 0) 11 = 0 := by rw [st_i_ne (by decide), st_i_eq]
  have r12 : st_i (st_si (st_si (st_si (st_si (st_si (st_si (st_si S2 0 0) 2 (st_i (st_si S2 0 0) 1)) 1 0) 7 0) 3 0) 11 0) 12 0) 12 = 0 := st_i_eq
  unfold fX5_text
  generalize st_si (st_si (st_si (st_si (st_si (st_si (st_si S2 0 0) 2 (st_i (st_si S2 0 0) 1)) 1 0) 7 0) 3 0) 11 0) 12 0 = R at *
  obtain ⟨R1, w1, z1, f1⟩ := m_zeroRow (S := R)
  have tpR : tp2 R1 (as_y σ) (as_l σ) := ⟨t1, t3, by rw [f1.1 _ (fun z => z)]; exact r2, fun k hk => by rw [f1.2.2.1 0 (by decide), fR.2.2.1 0 (fun z => z)]; exact u2 k hk⟩
  obtain ⟨R2, w2, k2, f2⟩ := m_go (p := 0) tpR (Nat.zero_le _) (by rw [f1.1 _ (fun z => z)]; exact r3)
  have PR : PM0 R R2 (as_y σ) (as_l σ) 0 := ⟨Nat.zero_le _, tp2_fr tpR f2 (by omega) (fun z => z), fun k hk => by rw [f2.2.2.1 2 (fun z => z)]; exact z1 k hk, by rw [f2.1 _ (by omega), f1.1 _ (fun z => z)]; exact r11, by rw [f2.1 _ (by omega), f1.1 _ (fun z => z)]; exact r12, k2, fr_tr (fr_mo f1 (fun _ z => z.elim) (fun _ z => z.elim) (fun _ z => z) (fun _ z => z)) (fr_mo f2 (fun _ z => by omega) (fun _ z => z) (fun _ z => z.elim) (fun _ z => z))⟩
  rw [ob_1t w1, ob_1t w2]
  unfold fX4_text fX3_read
  have ri : ∀ (T' : RSt), gX R T' → mB T' 1 0 (as_b σ) ∧ mH T' (as_c σ) (as_h σ) ∧ st_i T' 1 = nI 0 := fun T' g => by
    have fT : fr (fun k => k < 9 ∨ (10 ≤ k ∧ k < 13)) (fun k => k = 0) (fun a => a = 2) no S2 T' := fr_tr (fr_mo fR (fun _ z => by omega) (fun _ z => z.elim) (fun _ z => z.elim) (fun _ z => z)) (fr_mo g (fun _ z => by omega) (fun _ z => z) (fun _ z => z) (fun _ z => z))
    exact ⟨mB_fr M.1 fT (by decide), mH_fr M.2.1 fT (by omega) (by decide), by rw [g.1 1 (by omega)]; exact r1⟩
  rcases SIM_whole PA PR with ⟨f, b, S', T', e1, e2, hf, hf3, hb, q46, q48, q7, q8, fS, gT⟩ | ⟨S', T', β', ln', e1, e2, hln, q46, B', hc', q47, Bm, q12, fS, gT⟩
  · have e1 : fX3_read_L35 1000 0 (st_si (st_si (st_si (st_si (st_si A 47 0) 49 0) 52 0) 46 0) 50 1) = some S' := e1
    have d1' : fX0_reset 2 2 S1 = some A := d1
    rw [ob_1t d1', ob_1t e1, q46, if_neg (nI_ne0 hf (by omega)), ob_2t rfl, if_pos rfl, ob_2t e2, if_pos rfl, st_i_ne (by decide), q48, q8]
    have fS2 : fr (fun k => (6 ≤ k ∧ k < 9) ∨ (45 ≤ k ∧ k < 54)) no (fun a => a = 4 ∨ a = 5) no S1 (st_si S' 45 0) := fr_tr (fr_mo fS (fun _ z => by omega) (fun _ z => z) (fun _ z => z) (fun _ z => z)) (fr_si (by omega))
    obtain ⟨m1, m2, m3⟩ := ri T' gT
    refine ⟨_, st_si S' 45 0, T', (as_b σ, σ.2.1, (0, as_y σ), f), rfl, rfl, ⟨⟨cB_fr I.1.1 fS2 (by omega) (by omega) (by omega) (by omega) (by omega), I.1.2⟩, hR_fr I.2.1 fS2 (by omega) (by omega) (by omega) (by omega), ⟨Nat.zero_le _, st_i_eq, t3, fun k hk => absurd hk (Nat.not_lt_zero k), hf3, by rw [st_i_ne (by decide)]; exact q46⟩⟩, ⟨m1, m2, m3, fun k hk => absurd hk (Nat.not_lt_zero k), q7⟩, ?_⟩
    rcases F with F | ⟨F1, F2⟩
    · exact Or.inl (by rw [fS2.1 54 (by omega)]; exact F)
    · exact Or.inr ⟨by rw [fS2.1 54 (by omega)]; exact F1, (show FO (st_si S' 45 0) 0 (as_b σ) from FO_fr (as_pk I) F2 fS2 (by omega) (by omega) (fun z => z) (by omega) (by omega) (fun z => z))⟩
  · have e1 : fX3_read_L35 1000 0 (st_si (st_si (st_si (st_si (st_si A 47 0) 49 0) 52 0) 46 0) 50 1) = some S' := e1
    have d1' : fX0_reset 2 2 S1 = some A := d1
    rw [ob_1t d1', ob_1t e1, q46, if_pos rfl, ob_2t rfl, if_neg ne0, ob_2t e2, if_neg ne0]
    have f45 : fr (fun k => k = 45) no no no S' (st_si S' 45 0) := fr_si rfl
    obtain ⟨A2, d2, B2, g2⟩ := c_copyFrom (j := 0) (cB_fr B' f45 (by omega) (by omega) (by omega) (fun z => z) (fun z => z)) (by decide)
    obtain ⟨R3, w3, z3, f3⟩ := m_copyRow (S := T')
    have d3 : fX2_forget A2 = some (st_si A2 43 0) := rfl
    rw [ob_1t d2, ob_1t d3, ob_1t w3]
    have fS2 : fr (fun k => k < 3 ∨ (6 ≤ k ∧ k < 9) ∨ k = 43 ∨ (45 ≤ k ∧ k < 55)) no (fun a => a = 0 ∨ a = 1 ∨ a = 4 ∨ a = 5) no S1 (st_si (st_si A2 43 0) 54 0) := fr_tr (fr_tr (fr_tr (fr_tr (fr_mo fS (fun _ z => by omega) (fun _ z => z) (fun _ z => by omega) (fun _ z => z)) (fr_si (by omega))) (fr_mo g2 (fun _ z => by omega) (fun _ z => z) (fun _ z => by omega) (fun _ z => z))) (fr_si (by omega))) (fr_si (by omega))
    have f43 : fr (fun k => k = 43 ∨ k = 54) no no no A2 (st_si (st_si A2 43 0) 54 0) := fr_tr (fr_si (by omega)) (fr_si (by omega))
    have v47 : st_i (st_si (st_si A2 43 0) 54 0) 47 = nI ln' := by rw [f43.1 47 (by omega), g2.1 47 (by omega), st_i_ne (by decide)]; exact q47
    have gT' : gX R T' := fr_mo gT (fun _ z => by omega) (fun _ z => z) (fun _ z => z) (fun _ z => z)
    obtain ⟨m1, m2, m3⟩ := ri T' gT'
    have f9 : fr (fun k => k = 9) no (fun a => a = 1) no T' (st_si R3 9 0) := fr_tr (fr_mo f3 (fun _ z => z.elim) (fun _ z => z) (fun _ z => z) (fun _ z => z)) (fr_si rfl)
    have v12 : st_i (st_si R3 9 0) 12 = nI ln' := by rw [f9.1 12 (by omega)]; exact q12
    rw [v47, v12]
    refine ⟨_, _, _, (β', (0, as_h σ), (0, as_y σ), 0), rfl, rfl, ⟨⟨cB_fr B2 f43 (by omega) (by omega) (by omega) (fun z => z) (fun z => z), hc'⟩, ?_, ⟨Nat.zero_le _, ?_, t3, fun k hk => absurd hk (Nat.not_lt_zero k), Nat.zero_le _, ?_⟩⟩, ⟨mB_row Bm (fun k hk => by rw [st_a_si, z3 _ (by omega)]), ⟨Nat.zero_le _, st_i_eq, fun i hi => absurd hi (Nat.not_lt_zero i)⟩, ?_, fun k hk => absurd hk (Nat.not_lt_zero k), ?_⟩, Or.inl st_i_eq⟩
    · obtain ⟨h1, h2, nx, h3, h4, h5⟩ := I.2.1
      exact ⟨Nat.zero_le _, by rw [st_i_ne (by decide), st_i_eq]; rfl, nx, h3, by rw [fS2.1 44 (by omega)]; exact h4, fun i hi => absurd hi (Nat.not_lt_zero i)⟩
    · rw [f43.1 45 (by omega), g2.1 45 (by omega), st_i_eq]
      rfl
    · rw [f43.1 46 (by omega), g2.1 46 (by omega), st_i_ne (by decide), q46]
      rfl
    · rw [f9.1 1 (by omega)]
      exact m3
    · rw [f9.1 7 (by omega), gT.1 7 (by omega), r7]
      rfl
end JTX
