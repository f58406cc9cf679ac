/-! The acts, both sides at once. -/
def fok (S S' : RSt) (σ σ' : AS) : Prop := st_i S' 54 = 0 ∨ (fF S S' ∧ as_b σ' = as_b σ)
def jn {ρ : Type} (S1 : RSt) (σ : AS) (o1 o2 : Option (ρ × RSt)) : Prop := ∃ r S1' S2' σ', o1 = some (r, S1') ∧ o2 = some (r, S2') ∧ cI S1' σ' ∧ mI S2' σ' ∧ fok S1 S1' σ σ'
theorem fok_rf {S : RSt} {σ : AS} : fok S S σ σ := Or.inr ⟨fr_rf, rfl⟩
section ACT
variable {S1 S2 : RSt} {σ : AS}
theorem m_n1 {S : RSt} {β : BK} (B : mB S 1 0 β) : st_a S 1 1 = nI (bk_h β) := B.2.2.1
theorem J_home (I : cI S1 σ) (M : mI S2 σ) : jn S1 σ (fX4_home S1) (fX5_home S2) := by
  have hh := I.1.1.1.2.2.1
  have M0 := mI_t M 0
  by_cases q : bk_h (as_b σ) = 6
  · refine ⟨-2, S1, st_si S2 0 0, σ, ?_, ?_, I, M0, fok_rf⟩
    · unfold fX4_home
      rw [I.1.1.2.2.1, q, if_neg (by decide)]
    · unfold fX5_home
      rw [ob_in_t (in1 (by decide)), cl1, m_n1 M0.1, q, if_pos (show nI 6 = 6 from rfl)]
  · obtain ⟨S1', e1, I1, z1⟩ := c_beginAct I
    obtain ⟨S1'', e2, B2, F2⟩ := c_addHome I1.1.1 (by show bk_h (as_b σ) < 6; omega)
    obtain ⟨S2', e3, H3, F3⟩ := m_snap M0.1 M0.2.1
    have B3 := mB_fr M0.1 F3 (by decide)
    refine ⟨nI (bk_h (as_b σ)), S1'', st_sa S2' 1 1 (nI (bk_h (as_b σ) + 1)), (bk_home (as_b σ), hs_push (as_c σ) (as_h σ) (as_b σ), σ.2.2), ?_, ?_, cI_book I1 B2 I.1.2 F2, ?_, Or.inl ?_⟩
    · unfold fX4_home
      rw [I.1.1.2.2.1, if_pos (show nI (bk_h (as_b σ)) < (6 : Int32) from nI_lt (b := 6) (by omega) (by decide)), ob_1t e1, ob_2t e2]
      rfl
    · unfold fX5_home
      rw [ob_in_t (in1 (by decide)), cl1, m_n1 M0.1, if_neg (show ¬ nI (bk_h (as_b σ)) = (6 : Int32) from fun z => q ((nI_eq (b := 6) (by omega) (by decide)).mp z)), ob_1t e3, ob_in_t (in1 (by decide)), ob_in_t (in1 (by decide)), ob_in_t (in1 (by decide)), m_n1 B3, nI_1, st_a_eq]
      unfold upd
      rw [if_pos rfl, nI_pred]
    · refine ⟨⟨bk_home_ok I.1.1.1 (by omega), ?_, ?_, fun g hg => ?_, fun k hk => ?_⟩, mH_fr H3 (I := no) (J := no) (A := fun a => a = 1) (G := no) (fr_sa rfl) (fun z => z) (by decide), mT_fr (σ := (bk_home (as_b σ), hs_push (as_c σ) (as_h σ) (as_b σ), σ.2.2)) (mT_fr (σ := (bk_home (as_b σ), hs_push (as_c σ) (as_h σ) (as_b σ), σ.2.2)) M0.2.2 F3 (by decide) (by decide) (by decide)) (I := no) (J := no) (A := fun a => a = 1) (G := no) (fr_sa rfl) (fun z => z) (fun z => z) (by decide)⟩
      · rw [st_a_eq]
        unfold upd
        rw [if_neg (by omega)]
        exact B3.2.1
      · rw [st_a_eq]
        unfold upd
        rw [if_pos (by omega)]
        rfl
      · rw [st_a_eq]
        unfold upd
        rw [if_neg (by omega)]
        exact B3.2.2.2.1 g hg
      · rw [st_a_eq]
        unfold upd
        rw [if_neg (by omega)]
        exact B3.2.2.2.2 k hk
    · rw [F2.1 54 (by omega)]
      exact z1
/-- a sale can come -/
def sOK (β : BK) (x y z : Int32) : Prop := ∃ a b v, a < bk_h β ∧ b < bk_n β ∧ v ≤ 999 ∧ x = nI a ∧ y = nI b ∧ z = nI v ∧ bk_v β (8 * a + b) = 0
theorem c_canTake_n {S : RSt} {j : Nat} {β : BK} (B : cB S j β) {x y z : Int32} (h : ¬ sOK β x y z) : fX0_canTake j x y z S = some (0, S) := by
  rcases c_canTake B x y z with e | ⟨a, b, v, h1, h2, h3, h4, h5, h6, h7, -⟩
  · exact e
  · exact absurd ⟨a, b, v, h1, h2, h3, h4, h5, h6, h7⟩ h
theorem m_canSell1 {S : RSt} {β : BK} (B : mB S 1 0 β) {a b v : Nat} (ha : a < bk_h β) (hb : b < bk_n β) (hv : bk_v β (8 * a + b) = 0) (hl : v ≤ 999) : fX5_canSell (nI a) (nI b) (nI v) S = some (1, S) := by
  have h1 := B.1.2.2.1
  have h2 := B.1.2.1
  unfold fX5_canSell
  rw [ob_2t (m_isHome1 B ha), if_neg ne0, ob_2t (m_isMonth1 B hb), if_neg ne0, ob_2t (m_isSold0 B (by omega) (by omega) hv), if_pos rfl, show (999 : Int32) = nI 1000 - 1 by decide, ob_2t (m_isIn1 (by decide) (by omega)), if_neg ne0]
theorem m_canSell_n {S : RSt} {β : BK} (B : mB S 1 0 β) {x y z : Int32} (h : ¬ sOK β x y z) : fX5_canSell x y z S = some (0, S) := by
  have h1 := B.1.2.2.1
  have h2 := B.1.2.1
  unfold fX5_canSell
  rcases ix_or x (n := bk_h β) (by omega) with hx | ⟨a, ha, rfl⟩
  · rw [ob_2t (m_isHome0 B hx), if_pos rfl]
  · rw [ob_2t (m_isHome1 B ha), if_neg ne0]
    rcases ix_or y (n := bk_n β) (by omega) with hy | ⟨b, hb, rfl⟩
    · rw [ob_2t (m_isMonth0 B hy), if_pos rfl]
    · rw [ob_2t (m_isMonth1 B hb), if_neg ne0]
      by_cases hv : bk_v β (8 * a + b) = 0
      · rw [ob_2t (m_isSold0 B (by omega) (by omega) hv), if_pos rfl, show (999 : Int32) = nI 1000 - 1 by decide]
        rcases ix_or z (n := 1000) (by decide) with hz | ⟨v, hz, rfl⟩
        · rw [ob_2t (m_isIn0 (by decide) hz), if_pos rfl]
        · exact absurd ⟨a, b, v, ha, hb, by omega, rfl, rfl, rfl, hv⟩ h
      · rw [ob_2t (m_isSold1 B (by omega) (by omega) hv), if_neg ne0]
theorem mI_book {S S' : RSt} {σ : AS} {β β' : BK} {h : Nat × (Nat → BK)} (H : mH S h.1 h.2) (T : mT S σ) (B : mB S' 1 0 β) (F : fr no no (fun a => a = 1) no S S') : mI S' (β, h, σ.2.2) := ⟨B, mH_fr H F (fun z => z) (by decide), mT_fr (σ := (β, h, σ.2.2)) (mT_fr (σ := (β, h, σ.2.2)) (I := no) (J := no) (A := no) (G := no) T fr_rf (fun z => z) (fun z => z) (fun z => z)) F (fun z => z) (fun z => z) (by decide)⟩
theorem J_sale (I : cI S1 σ) (M : mI S2 σ) (x y z : Int32) : jn S1 σ (fX4_sale x y z S1) (fX5_sale x y z S2) := by
  have M0 := mI_t M 0
  have hc := I.1.2
  by_cases ok : sOK (as_b σ) x y z
  · obtain ⟨a, b, v, ha, hb, hv, rfl, rfl, rfl, h0⟩ := ok
    have h1 := I.1.1.1.2.2.1
    have h2 := I.1.1.1.2.1
    by_cases q : bk_c (as_b σ) = 18
    · refine ⟨-2, S1, st_si S2 0 0, σ, ?_, ?_, I, M0, fok_rf⟩
      · unfold fX4_sale
        rw [ob_2t (c_canTake1 I.1.1 ha hb h0 hv), if_neg ne0, I.1.1.2.2.2.1, q, if_neg (by decide)]
      · unfold fX5_sale
        rw [ob_2t (m_canSell1 M0.1 ha hb h0 hv), if_neg ne0, ob_2t (m_sales M0.1), q, if_pos (show nI 18 = 18 from rfl)]
    · obtain ⟨S1', e1, I1, z1⟩ := c_beginAct I
      obtain ⟨S1'', e2, B2, F2, c2⟩ := c_putSale1 I1.1.1 ha hb h0 hv
      obtain ⟨S2', e3, H3, F3⟩ := m_snap M0.1 M0.2.1
      have B3 := mB_fr M0.1 F3 (by decide)
      have B4 := m_write B3 ha hb (x := v + 1) (by omega)
      have c2 : bk_c (bk_set (as_b σ) (8 * a + b) (v + 1)) = bk_c (as_b σ) + 1 := c2
      refine ⟨nI (bk_c (as_b σ) + 1), S1'', st_sa S2' 1 (10 + (8 * a + b)) (nI (v + 1)), (bk_set (as_b σ) (8 * a + b) (v + 1), hs_push (as_c σ) (as_h σ) (as_b σ), σ.2.2), ?_, ?_, cI_book I1 B2 (by show bk_c (bk_set (as_b σ) (8 * a + b) (v + 1)) ≤ 18; omega) F2, mI_book (β' := as_b σ) H3 (mT_fr M0.2.2 F3 (by decide) (by decide) (by decide)) B4 (fr_sa rfl), Or.inl ?_⟩
      · unfold fX4_sale
        rw [ob_2t (c_canTake1 I.1.1 ha hb h0 hv), if_neg ne0, I.1.1.2.2.2.1, if_pos (show nI (bk_c (as_b σ)) < (18 : Int32) from nI_lt (b := 18) (by omega) (by decide)), ob_1t e1, ob_1t e2, B2.2.2.2.1, show bk_c (bk_set (as_b (as_b σ, hs_push (as_c σ) (as_h σ) (as_b σ), σ.2.2)) (8 * a + b) (v + 1)) = _ from c2]
      · unfold fX5_sale
        rw [ob_2t (m_canSell1 M0.1 ha hb h0 hv), if_neg ne0, ob_2t (m_sales M0.1), if_neg (show ¬ nI (bk_c (as_b σ)) = (18 : Int32) from fun z => q ((nI_eq (b := 18) (by omega) (by decide)).mp z)), ob_1t e3, ob_2t m_at, ob_in_t (vp_in_nI (by omega) (by decide)), nI_clamp (by omega), nI_1, ob_2t (m_sales B4), c2]
      · rw [F2.1 54 (by omega)]
        exact z1
  · refine ⟨-1, S1, st_si S2 0 0, σ, ?_, ?_, I, M0, fok_rf⟩
    · unfold fX4_sale
      rw [ob_2t (c_canTake_n I.1.1 ok), if_pos rfl]
    · unfold fX5_sale
      rw [ob_2t (m_canSell_n M0.1 ok), if_pos rfl]
theorem J_drop (I : cI S1 σ) (M : mI S2 σ) (x y : Int32) : jn S1 σ (fX4_drop x y S1) (fX5_drop x y S2) := by
  have M0 := mI_t M 0
  have hc := I.1.2
  have h1 := I.1.1.1.2.2.1
  have h2 := I.1.1.1.2.1
  have no : (fX4_drop x y S1 = some (-1, S1) ∧ fX5_drop x y S2 = some (-1, st_si S2 0 0)) → jn S1 σ (fX4_drop x y S1) (fX5_drop x y S2) := fun z => ⟨-1, S1, st_si S2 0 0, σ, z.1, z.2, I, M0, fok_rf⟩
  rcases ix_or x (n := bk_h (as_b σ)) (by omega) with hx | ⟨a, ha, rfl⟩
  · refine no ⟨?_, ?_⟩
    · unfold fX4_drop
      rw [ob_2t (c_levelAt0 I.1.1 (Or.inl hx)), if_pos rfl]
    · unfold fX5_drop
      rw [ob_2t (m_isHome0 M0.1 hx), if_pos rfl]
  · rcases ix_or y (n := bk_n (as_b σ)) (by omega) with hy | ⟨b, hb, rfl⟩
    · refine no ⟨?_, ?_⟩
      · unfold fX4_drop
        rw [ob_2t (c_levelAt0 I.1.1 (Or.inr hy)), if_pos rfl]
      · unfold fX5_drop
        rw [ob_2t (m_isHome1 M0.1 ha), if_neg ne0, ob_2t (m_isMonth0 M0.1 hy), if_pos rfl]
    · by_cases hv : bk_v (as_b σ) (8 * a + b) = 0
      · refine no ⟨?_, ?_⟩
        · unfold fX4_drop
          rw [ob_2t (c_levelAt1 I.1.1 ha hb), if_pos ((nI_m1 (c_v30 I.1.1 _)).mpr hv)]
        · unfold fX5_drop
          rw [ob_2t (m_isHome1 M0.1 ha), if_neg ne0, ob_2t (m_isMonth1 M0.1 hb), if_neg ne0, ob_2t (m_isSold0 M0.1 (by omega) (by omega) hv), if_pos rfl]
      · obtain ⟨S1', e1, I1, z1⟩ := c_beginAct I
        obtain ⟨S1'', e2, B2, F2, c2⟩ := c_takeSale1 I1.1.1 ha hb hv
        obtain ⟨S2', e3, H3, F3⟩ := m_snap M0.1 M0.2.1
        have B3 := mB_fr M0.1 F3 (by decide)
        have B4 := m_write B3 ha hb (x := 0) (by omega)
        have c2 : bk_c (bk_set (as_b σ) (8 * a + b) 0) + 1 = bk_c (as_b σ) := c2
        refine ⟨nI (bk_c (bk_set (as_b σ) (8 * a + b) 0)), S1'', st_sa S2' 1 (10 + (8 * a + b)) (nI 0), (bk_set (as_b σ) (8 * a + b) 0, hs_push (as_c σ) (as_h σ) (as_b σ), σ.2.2), ?_, ?_, cI_book I1 B2 (by show bk_c (bk_set (as_b σ) (8 * a + b) 0) ≤ 18; omega) F2, mI_book (β' := as_b σ) H3 (mT_fr M0.2.2 F3 (by decide) (by decide) (by decide)) B4 (fr_sa rfl), Or.inl ?_⟩
        · unfold fX4_drop
          rw [ob_2t (c_levelAt1 I.1.1 ha hb), if_neg (fun z => hv ((nI_m1 (c_v30 I.1.1 _)).mp z)), ob_1t e1, ob_1t e2, B2.2.2.2.1]
          rfl
        · unfold fX5_drop
          rw [ob_2t (m_isHome1 M0.1 ha), if_neg ne0, ob_2t (m_isMonth1 M0.1 hb), if_neg ne0, ob_2t (m_isSold1 M0.1 (by omega) (by omega) hv), if_neg ne0, ob_1t e3, ob_2t m_at, ob_in_t (vp_in_nI (by omega) (by decide)), nI_clamp (by omega), show (0 : Int32) = nI 0 from rfl, ob_2t (m_sales B4)]
        · rw [F2.1 54 (by omega)]
          exact z1
theorem J_level (I : cI S1 σ) (M : mI S2 σ) (x y : Int32) : jn S1 σ (fX4_level x y S1) (fX5_level x y S2) := by
  have M0 := mI_t M 0
  have h1 := I.1.1.1.2.2.1
  have h2 := I.1.1.1.2.1
  rcases ix_or x (n := bk_h (as_b σ)) (by omega) with hx | ⟨a, ha, rfl⟩
  · refine ⟨-1, S1, st_si S2 0 0, σ, ?_, ?_, I, M0, fok_rf⟩
    · unfold fX4_level
      rw [ob_2t (c_levelAt0 I.1.1 (Or.inl hx))]
    · unfold fX5_level
      rw [ob_2t (m_isHome0 M0.1 hx), if_pos rfl]
  · rcases ix_or y (n := bk_n (as_b σ)) (by omega) with hy | ⟨b, hb, rfl⟩
    · refine ⟨-1, S1, st_si S2 0 0, σ, ?_, ?_, I, M0, fok_rf⟩
      · unfold fX4_level
        rw [ob_2t (c_levelAt0 I.1.1 (Or.inr hy))]
      · unfold fX5_level
        rw [ob_2t (m_isHome1 M0.1 ha), if_neg ne0, ob_2t (m_isMonth0 M0.1 hy), if_pos rfl]
    · refine ⟨nI (bk_v (as_b σ) (8 * a + b)) - 1, S1, st_si S2 0 0, σ, ?_, ?_, I, M0, fok_rf⟩
      · unfold fX4_level
        rw [ob_2t (c_levelAt1 I.1.1 ha hb)]
      · unfold fX5_level
        rw [ob_2t (m_isHome1 M0.1 ha), if_neg ne0, ob_2t (m_isMonth1 M0.1 hb), if_neg ne0]
        by_cases hv : bk_v (as_b σ) (8 * a + b) = 0
        · rw [ob_2t (m_isSold0 M0.1 (by omega) (by omega) hv), if_pos rfl, hv]
          rfl
        · rw [ob_2t (m_isSold1 M0.1 (by omega) (by omega) hv), if_neg ne0, ob_2t (m_levelOf M0.1 (by omega) (by omega))]
theorem J_fault (I : cI S1 σ) (M : mI S2 σ) : jn S1 σ (fX4_fault S1) (fX5_fault S2) := by
  have M0 := mI_t M 0
  refine ⟨nI (as_f σ), S1, st_si S2 0 0, σ, ?_, ?_, I, M0, fok_rf⟩
  · unfold fX4_fault
    rw [I.2.2.2.2.2.2.2]
  · unfold fX5_fault
    rw [M0.2.2.2.2]
theorem J_end (I : cI S1 σ) (M : mI S2 σ) (x : Int32) : jn S1 σ (fX4_end x S1) (fX5_end x S2) := by
  have M0 := mI_t M 0
  obtain ⟨t1, t2, t3, t4, t5, t6⟩ := I.2.2
  rcases ix_or x (n := as_l σ + 1) (by omega) with hx | ⟨k, hk, rfl⟩
  · refine ⟨0, S1, st_si S2 0 0, σ, ?_, ?_, I, M0, fok_rf⟩
    · unfold fX4_end
      rcases hx with h | ⟨h, h'⟩
      · rw [if_pos h]
      · rw [if_neg h, t2, if_neg]
        rw [Int32.le_iff_toInt_le, nI_t (by omega)] at h' ⊢
        omega
    · unfold fX5_end
      rcases hx with h | ⟨h, h'⟩
      · rw [if_pos h]
      · rw [if_neg h, M0.2.2.1, if_neg]
        rw [Int32.le_iff_toInt_le, nI_t (by omega)] at h' ⊢
        omega
  · refine ⟨1, st_si S1 45 (nI k), st_si (st_si S2 0 0) 1 (nI k), (σ.1, σ.2.1, (k, as_y σ), σ.2.2.2), ?_, ?_, ⟨⟨cB_fr (I := fun q => q = 45) (J := no) (A := no) (G := no) I.1.1 (fr_si rfl) (by omega) (by omega) (by omega) (fun z => z) (fun z => z), I.1.2⟩, hR_fr (I := fun q => q = 45) (J := no) (A := no) (G := no) I.2.1 (fr_si rfl) (by omega) (by omega) (by omega) (fun _ _ _ z => z), ?_⟩, ⟨mB_fr (I := fun q => q = 1) (J := no) (A := no) (G := no) M0.1 (fr_si rfl) (fun z => z), mH_fr (I := fun q => q = 1) (J := no) (A := no) (G := no) M0.2.1 (fr_si rfl) (by omega) (fun z => z), ?_⟩, Or.inr ⟨fr_si ⟨by omega, by omega, by omega⟩, rfl⟩⟩
    · unfold fX4_end
      rw [if_neg (nI_pos (by omega)), t2, if_pos (nI_le (by omega) (by omega))]
    · unfold fX5_end
      rw [if_neg (nI_pos (by omega)), M0.2.2.1, if_pos (nI_le (by omega) (by omega))]
    · refine ⟨by show k ≤ 540; omega, st_i_eq, t3, fun j hj => t4 j (by have : j < k := hj; omega), t5, by rw [st_i_ne (by decide)]; exact t6⟩
    · exact ⟨st_i_eq, fun j hj => M0.2.2.2.1 j (by have : j < k := hj; omega), by rw [st_i_ne (by decide)]; exact M0.2.2.2.2⟩
end ACT
