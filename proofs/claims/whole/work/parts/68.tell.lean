/-! What the fit tells, both sides at once. -/
def FI (S : RSt) (σ : AS) : Prop := st_i S 54 = 0 ∨ (st_i S 54 = 1 ∧ FO S 0 (as_b σ))
def JJ (S1 S2 : RSt) (σ : AS) : Prop := cI S1 σ ∧ mI S2 σ ∧ FI S1 σ
def JR {ρ : Type} (o1 o2 : Option (ρ × RSt)) : Prop := ∃ r S1' S2' σ', o1 = some (r, S1') ∧ o2 = some (r, S2') ∧ JJ S1' S2' σ'
def JT {α : Type} (z : α) (o1 : Option (Option α × RSt)) (o2 : Option (α × RSt)) : Prop := ∃ r S1' S2' σ', o1 = some (r, S1') ∧ o2 = some (r.getD z, S2') ∧ st_i S2' 0 = (if r.isNone then 1 else 0) ∧ JJ S1' S2' σ'
theorem FO_fr {I J A G : Nat → Prop} {S S' : RSt} {j : Nat} {β : BK} (hk : pk β ≤ 18) (h : FO S j β) (f : fr I J A G S S') (h1 : ¬ I (39 + 2 * j)) (h2 : ¬ I (40 + 2 * j)) (h3 : ¬ J j) (h4 : ¬ A (26 + j)) (h5 : ∀ a, 28 + 42 * j ≤ a → a < 70 + 42 * j → ¬ A a) (h6 : ¬ G j) : FO S' j β := ⟨⟨by rw [f.1 _ h1]; exact h.1.1, fun m hm => by rw [f.2.2.1 _ h4]; exact h.1.2 m hm⟩, ⟨by rw [f.1 _ h2]; exact h.2.1.1, fun i hi => by rw [f.2.2.1 _ (h5 _ (by omega) (by omega))]; exact h.2.1.2 i hi⟩, by rw [f.2.1 _ h3]; exact h.2.2.1, fun m hm => by rw [f.2.2.2 _ h6]; exact h.2.2.2 m hm⟩
theorem cI_fr {I J A G : Nat → Prop} {S S' : RSt} {σ : AS} (h : cI S σ) (f : fr I J A G S S') (h1 : ∀ k, k < 3 → ¬ I k) (h2 : ∀ k, 9 ≤ k → k < 39 → ¬ I k) (h3 : ∀ k, 43 ≤ k → k < 47 → ¬ I k) (h4 : ∀ a, a < 2 → ¬ A a) (h5 : ∀ a, 6 ≤ a → a < 26 → ¬ A a) (h6 : ¬ A 112) : cI S' σ := ⟨⟨cB_fr h.1.1 f (h1 _ (by omega)) (h1 _ (by omega)) (h1 _ (by omega)) (h4 _ (by omega)) (h4 _ (by omega)), h.1.2⟩, hR_fr h.2.1 f h2 (h3 _ (by omega) (by omega)) (h3 _ (by omega) (by omega)) h5, tR_fr h.2.2 f (h3 _ (by omega) (by omega)) (h3 _ (by omega) (by omega)) h6⟩
section TEL
variable {S S1 S2 : RSt} {σ : AS}
theorem as_pk (I : cI S σ) : pk (as_b σ) ≤ 18 := by
  have := pk_c I.1.1.1
  have := I.1.2
  omega
theorem FI_ok {S' : RSt} {σ' : AS} (I : cI S σ) (F : FI S σ) (f : fok S S' σ σ') : FI S' σ' := by
  rcases f with f | ⟨f, e⟩
  · exact Or.inl f
  · rcases F with F | ⟨F1, F2⟩
    · exact Or.inl (by rw [f.1 54 (by decide)]; exact F)
    · refine Or.inr ⟨by rw [f.1 54 (by decide)]; exact F1, ?_⟩
      rw [e]
      exact FO_fr (as_pk I) F2 f (by omega) (by omega) (by omega) (by omega) (by omega) (by omega)
theorem jn_R {ρ : Type} {o1 o2 : Option (ρ × RSt)} (J : JJ S1 S2 σ) (h : jn S1 σ o1 o2) : JR o1 o2 := by
  obtain ⟨r, S1', S2', σ', e1, e2, c, m, f⟩ := h
  exact ⟨r, S1', S2', σ', e1, e2, c, m, FI_ok J.1 J.2.2 f⟩
theorem c_fitNow (I : cI S σ) (F : FI S σ) : ∃ S', fX4_fitNow S = some S' ∧ FO S' 0 (as_b σ) ∧ cI S' σ ∧ FI S' σ := by
  unfold fX4_fitNow
  rcases F with F | ⟨F1, F2⟩
  · obtain ⟨S4, e, h1, h2⟩ := c_solve (j := 0) (u := 0) (by decide) (by decide) I.1.1 (by have := I.1.2; omega)
    rw [if_pos F, ob_1t e]
    have f2 : fr (fun k => k = 54) no no no S4 (st_si S4 54 1) := fr_si rfl
    have h3 := FO_fr (as_pk I) h1 f2 (by omega) (by omega) (fun z => z) (fun z => z) (fun _ _ _ z => z) (fun z => z)
    exact ⟨_, rfl, h3, cI_fr (cI_fr I h2 (by omega) (by omega) (by omega) (by omega) (by omega) (by omega)) f2 (by omega) (by omega) (by omega) (fun _ _ z => z) (fun _ _ _ z => z) (fun z => z), Or.inr ⟨st_i_eq, h3⟩⟩
  · rw [if_neg (by rw [F1]; exact ne0)]
    exact ⟨S, rfl, F2, I, Or.inr ⟨F1, F2⟩⟩
theorem mI_gS {S' : RSt} (M : mI S σ) (f : gS S S') : mI S' σ := mI_fr M f (by omega) (by omega) (by omega) (by omega) (by omega) (by omega)
theorem m_laysPP (M : mI S σ) (hc : bk_c (as_b σ) ≤ 18) : ∃ T U, fX5_laysPairs (-1) S = some T ∧ fX5_laysParts T = some U ∧ mP T (as_b σ) (pk (as_b σ)) (pF (as_b σ)) ∧ mP U (as_b σ) (pk (as_b σ)) (pF (as_b σ)) ∧ (∀ m, m < 8 → st_a U 9 m = nI (pt (as_b σ) m)) ∧ gS S T ∧ gS S U := by
  obtain ⟨T, e1, P1, F1⟩ := m_laysPairs M.1 (by omega)
  have hk := pk_c M.1.1
  have n8 := M.1.1.2.1
  obtain ⟨U, e2, T2, F2⟩ := m_laysParts (k := pk (as_b σ)) (F := pF (as_b σ)) (by omega) P1 (fun i hi => by
    have v := pF_v hi
    have v1 := v.2.1
    have v2 := v.2.2
    omega)
  have s1 : gS S T := fr_mo F1 (fun _ z => Or.inl z) (fun _ z => z.elim) (fun _ z => by omega) (fun _ z => z.elim)
  exact ⟨T, U, e1, e2, P1, mP_fr P1 F2 (fun z => z) (fun _ _ _ => by omega), T2, s1, fr_tr s1 (fr_mo F2 (fun _ z => z.elim) (fun _ z => z.elim) (fun _ z => by omega) (fun _ z => z.elim))⟩
/-! part -/
theorem J_part (J : JJ S1 S2 σ) (x : Int32) : JR (fX4_part x S1) (fX5_part x S2) := by
  obtain ⟨I, M, F⟩ := J
  have M0 := mI_t M 0
  obtain ⟨T, U, e1, e2, P1, P2, T2, s1, s2⟩ := m_laysPP M0 I.1.2
  have MU := mI_gS M0 s2
  have n8 := I.1.1.1.2.1
  unfold fX4_part fX5_part
  rw [ob_1t e1, ob_1t e2]
  rcases ix_or x (n := bk_n (as_b σ)) (by omega) with h | ⟨k, hk, rfl⟩
  · rw [ob_2t (c_hasMonth0 I.1.1 h), if_pos rfl, ob_2t (m_isMonth0 MU.1 h), if_pos rfl]
    exact ⟨-1, S1, U, σ, rfl, rfl, I, MU, F⟩
  · obtain ⟨S', f1, f2, f3, f4⟩ := c_fitNow I F
    rw [ob_2t (c_hasMonth1 I.1.1 hk), if_neg ne0, ob_1t f1, ob_in_t (vp_in_nI (show k < 8 by omega) (by decide)), ob_2t (m_isMonth1 MU.1 hk), if_neg ne0, ob_in_t (vp_in_nI (show k < 8 by omega) (by decide)), nI_clamp (by omega), f2.1.2 k hk, T2 k (by omega)]
    exact ⟨_, S', U, σ, rfl, rfl, f3, MU, f4⟩
/-! now -/
def cn (π : Nat → Nat) : Nat → Nat
  | 0 => 0
  | x + 1 => cn π x + if π x = x then 1 else 0
theorem c_countParts {β : BK} (hb : bk_ok β) (F : FO S 0 β) : fX1_countParts 0 S = some (nI (cn (pt β) (bk_n β)), S) := by
  have n8 := hb.2.1
  have hπ := (pt_ok (β := β) (Nat.le_refl _)).2.1
  obtain ⟨r, e, h⟩ := lp_up (fun f i (s : Int32 × RSt) => fX1_countParts_L4 0 f s.1 (nI i) s.2) (fun i s => s = (nI (cn (pt β) i), S)) (bk_n β) (fun r => r = (nI (cn (pt β) (bk_n β)), S))
    (fun f s hs => ⟨s, by
      subst hs
      show fX1_countParts_L4 0 (f + 1) _ (nI (bk_n β)) S = _
      rw [fX1_countParts_L4, F.1.1, if_pos (nI_le (Nat.le_refl _) (by omega))], hs⟩)
    (fun f i s hi hs => Or.inr (by
      subst hs
      show ∃ s' : Int32 × RSt, _ ∧ fX1_countParts_L4 0 (f + 1) (nI (cn (pt β) i)) (nI i) S = fX1_countParts_L4 0 f s'.1 (nI (i + 1)) s'.2
      have := hπ i hi
      refine ⟨_, rfl, ?_⟩
      rw [fX1_countParts_L4, F.1.1, if_neg (nI_ge (b := bk_n β) hi (by omega)), ob_in_t (vp_in_nI (show i < 8 by omega) (by decide)), nI_clamp (by omega), F.1.2 i hi, nI_1, nI_1, cn]
      by_cases c : pt β i = i
      · rw [if_pos (by rw [c]), if_pos c]
      · rw [if_neg (fun z => c ((nI_eq (by omega) (by omega)).mp z)), if_neg c]
        rfl))
    (bk_n β) 0 1000 ((0 : Int32), S) (by omega) (by omega) rfl
  subst h
  unfold fX1_countParts
  have e : fX1_countParts_L4 0 1000 (0 : Int32) (0 : Int32) S = some (nI (cn (pt β) (bk_n β)), S) := e
  rw [ob_2t e]
theorem m_count {β : BK} (B : mB S 1 0 β) (hp : ∀ m, m < 8 → st_a S 9 m = nI (pt β m)) (x : Int32) : fX5_now_L18 1000 x 0 0 S = some (nI (cn (pt β) (bk_n β)), S) := by
  have n8 := B.1.2.1
  have hπ := (pt_ok (β := β) (Nat.le_refl _)).2.1
  obtain ⟨r, e, h⟩ := lp_up (fun f i (s : Int32 × RSt) => fX5_now_L18 f x s.1 (nI i) s.2) (fun i s => s = (nI (cn (pt β) i), S)) (bk_n β) (fun r => r = (nI (cn (pt β) (bk_n β)), S))
    (fun f s hs => ⟨s, by
      subst hs
      show fX5_now_L18 (f + 1) x _ (nI (bk_n β)) S = _
      rw [fX5_now_L18, ob_in_t (in0 (by decide)), cl0, B.2.1, if_pos (nI_le (Nat.le_refl _) (by omega))], hs⟩)
    (fun f i s hi hs => Or.inr (by
      subst hs
      show ∃ s' : Int32 × RSt, _ ∧ fX5_now_L18 (f + 1) x (nI (cn (pt β) i)) (nI i) S = fX5_now_L18 f x s'.1 (nI (i + 1)) s'.2
      have := hπ i hi
      refine ⟨_, rfl, ?_⟩
      rw [fX5_now_L18, ob_in_t (in0 (by decide)), cl0, B.2.1, if_neg (nI_ge (b := bk_n β) hi (by omega)), ob_in_t (vp_in_nI (show i < 8 by omega) (by decide)), nI_clamp (by omega), hp i (by omega), nI_1, nI_1, cn]
      by_cases c : pt β i = i
      · rw [if_pos (by rw [c]), if_pos c]
      · rw [if_neg (fun z => c ((nI_eq (by omega) (by omega)).mp z)), if_neg c]
        rfl))
    (bk_n β) 0 1000 ((0 : Int32), S) (by omega) (by omega) rfl
  subst h
  exact e
theorem J_now (J : JJ S1 S2 σ) (x : Int32) : JR (fX4_now x S1) (fX5_now x S2) := by
  obtain ⟨I, M, F⟩ := J
  have M0 := mI_t M 0
  obtain ⟨T, U, e1, e2, P1, P2, T2, s1, s2⟩ := m_laysPP M0 I.1.2
  have MU := mI_gS M0 s2
  unfold fX4_now fX5_now
  rw [ob_1t e1, ob_1t e2, ob_2t (m_count MU.1 T2 x)]
  by_cases c0 : x = 0
  · rw [if_pos c0, if_pos c0, c0, ob_in_t (in0 (by decide)), cl0, MU.1.2.1]
    exact ⟨_, S1, U, σ, by rw [show (3 * 0 : Nat) = 0 from rfl]; exact congrArg (fun z => some (z, S1)) I.1.1.2.1, rfl, I, MU, F⟩
  rw [if_neg c0, if_neg c0]
  by_cases c1 : x = 1
  · rw [if_pos c1, if_pos c1, c1, ob_in_t (in1 (by decide)), cl1, m_n1 MU.1]
    exact ⟨_, S1, U, σ, congrArg (fun z => some (z, S1)) I.1.1.2.2.1, rfl, I, MU, F⟩
  rw [if_neg c1, if_neg c1]
  by_cases c2 : x = 2
  · rw [if_pos c2, if_pos c2, ob_2t (m_sales MU.1)]
    exact ⟨_, S1, U, σ, congrArg (fun z => some (z, S1)) I.1.1.2.2.2.1, rfl, I, MU, F⟩
  rw [if_neg c2, if_neg c2]
  obtain ⟨S', f1, f2, f3, f4⟩ := c_fitNow I F
  by_cases c3 : x = 3
  · rw [if_pos c3, if_pos c3, ob_1t f1, P2.1]
    exact ⟨_, S', U, σ, congrArg (fun z => some (z, S')) f2.2.1.1, rfl, f3, MU, f4⟩
  rw [if_neg c3, if_neg c3]
  by_cases c4 : x = 4
  · rw [if_pos c4, if_pos c4, ob_1t f1, ob_2t (c_countParts I.1.1.1 f2)]
    exact ⟨_, S', U, σ, rfl, rfl, f3, MU, f4⟩
  rw [if_neg c4, if_neg c4]
  by_cases c5 : x = 5
  · rw [if_pos c5, if_pos c5, MU.2.1.2.1, I.2.1.2.1]
    exact ⟨_, S1, U, σ, rfl, rfl, I, MU, F⟩
  rw [if_neg c5, if_neg c5]
  by_cases c6 : x = 6
  · rw [if_pos c6, if_pos c6, MU.2.2.1, I.2.2.2.1]
    exact ⟨_, S1, U, σ, rfl, rfl, I, MU, F⟩
  rw [if_neg c6, if_neg c6]
  exact ⟨_, S1, U, σ, rfl, rfl, I, MU, F⟩
/-! pair -/
theorem c_hasPair0 {β : BK} (hk : pk β ≤ 18) (F : FO S 0 β) {x : Int32} (h : ixb x (pk β)) : fX1_hasPair 0 x S = some (0, S) := by
  unfold fX1_hasPair
  rcases h with h | ⟨h, h2⟩
  · rw [if_pos h]
  · rw [if_neg h, F.2.1.1, if_pos h2]
theorem c_hasPair1 {β : BK} (hk : pk β ≤ 18) (F : FO S 0 β) {i : Nat} (h : i < pk β) : fX1_hasPair 0 (nI i) S = some (1, S) := by
  unfold fX1_hasPair
  rw [if_neg (nI_pos (by omega)), F.2.1.1, if_neg (nI_ge h (by omega))]
theorem m_refuse : fX5_refuse S = some (0, st_si S 0 1) := rfl
theorem J_pair (J : JJ S1 S2 σ) (x y : Int32) : JT 0 (fX4_pair x y S1) (fX5_pair x y S2) := by
  obtain ⟨I, M, F⟩ := J
  have M0 := mI_t M 0
  obtain ⟨T, U, e1, -, P1, -, -, s1, -⟩ := m_laysPP M0 I.1.2
  have MT := mI_gS M0 s1
  have hk := as_pk I
  have t0 : st_i T 0 = 0 := by rw [s1.1 0 (by omega), st_i_eq]
  obtain ⟨S', f1, f2, f3, f4⟩ := c_fitNow I F
  have ref : JT (0 : Int32) (some (none, S')) (ob_2 (fX5_refuse T) fun r_23 S_24 => some (r_23, S_24)) := ⟨none, S', st_si T 0 1, σ, rfl, rfl, st_i_eq, f3, mI_t MT 1, f4⟩
  unfold fX4_pair fX5_pair
  rw [ob_1t f1, ob_1t e1, P1.1]
  rcases ix_or x (n := pk (as_b σ)) (by omega) with h | ⟨i, hi, rfl⟩
  · rw [ob_2t (c_hasPair0 hk f2 h), if_pos rfl, ob_2t (m_isIn0 (by omega) h), if_pos rfl]
    exact ref
  · have i42 : vp_in (nI i) 42 := vp_in_nI (show i < 42 by omega) (by decide)
    have i48 : vp_in (nI i) 48 := vp_in_nI (show i < 48 by omega) (by decide)
    have q := f2.2.1.2 i hi
    have q2 := P1.2 i hi
    rw [ob_2t (c_hasPair1 hk f2 hi), if_neg ne0, ob_2t (m_isIn1 (by omega) hi), if_neg ne0, ob_in_t i42, ob_in_t i48, ob_in_t i48, ob_in_t i48, ob_in_t i48, ob_in_t i48, nI_clamp (by omega)]
    have ok : ∀ (k : Nat) (v : Int32), k < 5 → st_a S' (28 + 42 * 0 + i) k = v → JT (0 : Int32) (if nI k < 0 then some (none, S') else if nI k < (5 : Int32) then ob_in (nI k) 5 (some (some (st_a S' (28 + 42 * 0 + i) (nI k).toNatClampNeg), S')) else some (none, S')) (some (v, T)) := fun k v h5 hv => by
      rw [if_neg (nI_pos (by omega)), if_pos (show nI k < (5 : Int32) from nI_lt (b := 5) h5 (by decide)), ob_in_t (vp_in_nI h5 (by decide)), nI_clamp (by omega), hv]
      exact ⟨some v, S', T, σ, rfl, rfl, t0, f3, MT, f4⟩
    rcases ix_or y (n := 5) (by decide) with h | ⟨k, hk5, rfl⟩
    · have n0 : ∀ k : Nat, k < 5 → ¬ y = nI k := fun k hk e => by
        rw [e] at h
        rcases h with h | ⟨_, h⟩
        · exact absurd h (nI_pos (by omega))
        · exact absurd h (nI_ge hk (by decide))
      rw [if_neg (show ¬ y = 0 from n0 0 (by decide)), if_neg (show ¬ y = 1 from n0 1 (by decide)), if_neg (show ¬ y = 2 from n0 2 (by decide)), if_neg (show ¬ y = 3 from n0 3 (by decide)), if_neg (show ¬ y = 4 from n0 4 (by decide))]
      rcases h with h | ⟨h, h2⟩
      · rw [if_pos h]
        exact ref
      · rw [if_neg h, if_neg (show ¬ y < (5 : Int32) from fun z => by
          rw [Int32.lt_iff_toInt_lt] at z
          rw [Int32.le_iff_toInt_le] at h2
          have e5 : (nI 5).toInt = (5 : Int32).toInt := by decide
          omega)]
        exact ref
    · obtain rfl | rfl | rfl | rfl | rfl : k = 0 ∨ k = 1 ∨ k = 2 ∨ k = 3 ∨ k = 4 := by omega
      · rw [if_pos (show nI 0 = (0 : Int32) from rfl), q2.1]
        exact ok 0 _ (by decide) q.1
      · rw [if_neg (show ¬ nI 1 = (0 : Int32) by decide), if_pos (show nI 1 = (1 : Int32) from rfl), q2.2.1]
        exact ok 1 _ (by decide) q.2.1
      · rw [if_neg (show ¬ nI 2 = (0 : Int32) by decide), if_neg (show ¬ nI 2 = (1 : Int32) by decide), if_pos (show nI 2 = (2 : Int32) from rfl), q2.2.2.1]
        exact ok 2 _ (by decide) q.2.2.1
      · rw [if_neg (show ¬ nI 3 = (0 : Int32) by decide), if_neg (show ¬ nI 3 = (1 : Int32) by decide), if_neg (show ¬ nI 3 = (2 : Int32) by decide), if_pos (show nI 3 = (3 : Int32) from rfl), q2.2.2.2.1]
        exact ok 3 _ (by decide) q.2.2.2.1
      · rw [if_neg (show ¬ nI 4 = (0 : Int32) by decide), if_neg (show ¬ nI 4 = (1 : Int32) by decide), if_neg (show ¬ nI 4 = (2 : Int32) by decide), if_neg (show ¬ nI 4 = (3 : Int32) by decide), if_pos (show nI 4 = (4 : Int32) from rfl), q2.2.2.2.2]
        exact ok 4 _ (by decide) q.2.2.2.2
/-! index, off -/
theorem c_tell {β : BK} {j : Nat} (hb : bk_ok β) (hk : pk β ≤ 18) (F : FO S j β) {m : Nat} (hm : m < bk_n β) (u : Int32) : fX1_tellIndex j (nI m) u S = some (ls (tp β m) (bt β) u, S) := by
  have n8 := hb.2.1
  unfold fX1_tellIndex
  rw [ob_in_t (vp_in_nI (show m < 8 by omega) (by decide)), nI_clamp (by omega), F.2.2.2 m hm, F.2.2.1, ob_2t (c_low (tp_lb hb hk hm) (bt_pb hb hk) u)]
theorem J_index (J : JJ S1 S2 σ) (x u : Int32) : JT 0 (fX4_index x u S1) (fX5_index x u S2) := by
  obtain ⟨I, M, F⟩ := J
  have M0 := mI_t M 0
  have hk := as_pk I
  have hb := I.1.1.1
  have n8 := hb.2.1
  unfold fX4_index fX5_index
  rcases ix_or x (n := bk_n (as_b σ)) (by omega) with h | ⟨k, hk8, rfl⟩
  · rw [ob_2t (c_hasMonth0 I.1.1 h), if_pos rfl, ob_2t (m_isMonth0 M0.1 h), if_pos rfl]
    exact ⟨none, S1, st_si (st_si S2 0 0) 0 1, σ, rfl, rfl, st_i_eq, I, mI_t M0 1, F⟩
  · obtain ⟨S', f1, f2, f3, f4⟩ := c_fitNow I F
    obtain ⟨T, e1, O1, s1⟩ := m_solves M0.1 (by have := I.1.2; omega)
    have MT := mI_gS M0 s1
    have t0 : st_i T 0 = 0 := by rw [s1.1 0 (by omega), st_i_eq]
    rw [ob_2t (c_hasMonth1 I.1.1 hk8), if_neg ne0, ob_1t f1, ob_2t (c_tell hb hk f2 hk8 u), ob_2t (m_isMonth1 M0.1 hk8), if_neg ne0, ob_1t e1, ob_in_t (vp_in_nI (show k < 8 by omega) (by decide)), nI_clamp (by omega), O1.2.2.2.2.2 k (by omega), ob_2t (m_low (tp_lb hb hk hk8) (bt_pb hb hk) O1.2.2.2.1 u)]
    exact ⟨some _, S', T, σ, rfl, rfl, t0, f3, MT, f4⟩
theorem c_offTop {β : BK} (hb : bk_ok β) (hk : pk β ≤ 18) (F : FO S 0 β) {i : Nat} (hi : i < pk β) : fX1_offTop 0 (nI i) S = some (iL (of β i), S) := by
  obtain ⟨c0, c1, c2, c3, c4⟩ := clA
  obtain ⟨i0, i1, i2, i3, i4⟩ := inA
  obtain ⟨p0, p1, p2, p3, p4⟩ := F.2.1.2 i hi
  obtain ⟨_, v1, v2⟩ := pF_v hi
  have n8 := hb.2.1
  unfold fX1_offTop
  rw [ob_in_t (vp_in_nI (show i < 42 by omega) (by decide)), ob_in_t i3, ob_in_t i2, ob_in_t i1, nI_clamp (show i < 2 ^ 31 by omega), c1, c2, c3, p1, p2, p3, ob_in_t (vp_in_nI (show (pF β i).2.2 < 8 by omega) (by decide)), ob_in_t (vp_in_nI (show (pF β i).2.1 < 8 by omega) (by decide)), nI_clamp (by omega), nI_clamp (by omega), F.2.2.2 _ v2, F.2.2.2 _ (show (pF β i).2.1 < bk_n β by omega), F.2.2.1, i32_l, rs_t hb, iL_mul, iL_sub, iL_sub]
  rfl
theorem m_offOf {β : BK} (hb : bk_ok β) (hk : pk β ≤ 18) (O : MO S β) {i : Nat} (hi : i < pk β) : fX5_offOf (nI i) S = some (iL (of β i), S) := by
  obtain ⟨p0, p1, p2, p3, p4⟩ := O.1.2 i hi
  obtain ⟨_, v1, v2⟩ := pF_v hi
  have n8 := hb.2.1
  have i48 : vp_in (nI i) 48 := vp_in_nI (show i < 48 by omega) (by decide)
  unfold fX5_offOf
  rw [ob_in_t i48, ob_in_t i48, nI_clamp (show i < 2 ^ 31 by omega), p1, p2, p3, ob_in_t (vp_in_nI (show (pF β i).2.2 < 8 by omega) (by decide)), ob_in_t i48, ob_in_t (vp_in_nI (show (pF β i).2.1 < 8 by omega) (by decide)), nI_clamp (by omega), nI_clamp (by omega), O.2.2.2.2.2 _ (show (pF β i).2.2 < 8 by omega), O.2.2.2.2.2 _ (show (pF β i).2.1 < 8 by omega), O.2.2.2.1, i32_l, rs_t hb, iL_mul, iL_sub, iL_add]
  unfold of
  congr 2
  congr 1
  omega
theorem J_off (J : JJ S1 S2 σ) (x u : Int32) : JT 0 (fX4_off x u S1) (fX5_off x u S2) := by
  obtain ⟨I, M, F⟩ := J
  have M0 := mI_t M 0
  have hk := as_pk I
  have hb := I.1.1.1
  obtain ⟨S', f1, f2, f3, f4⟩ := c_fitNow I F
  obtain ⟨T, e1, O1, s1⟩ := m_solves M0.1 (by have := I.1.2; omega)
  have MT := mI_gS M0 s1
  have t0 : st_i T 0 = 0 := by rw [s1.1 0 (by omega), st_i_eq]
  unfold fX4_off fX5_off
  rw [ob_1t f1, ob_1t e1, O1.1.1]
  rcases ix_or x (n := pk (as_b σ)) (by omega) with h | ⟨i, hi, rfl⟩
  · rw [ob_2t (c_hasPair0 hk f2 h), if_pos rfl, ob_2t (m_isIn0 (by omega) h), if_pos rfl]
    exact ⟨none, S', st_si T 0 1, σ, rfl, rfl, st_i_eq, f3, mI_t MT 1, f4⟩
  · rw [ob_2t (c_hasPair1 hk f2 hi), if_neg ne0, ob_2t (m_isIn1 (by omega) hi), if_neg ne0, ob_2t (c_offTop hb hk f2 hi), ob_2t (m_offOf hb hk O1 hi), f2.2.2.1, ob_2t (c_low (of_lb hb hk hi) (bt_pb hb hk) u), ob_2t (m_low (of_lb hb hk hi) (bt_pb hb hk) O1.2.2.2.1 u)]
    exact ⟨some _, S', T, σ, rfl, rfl, t0, f3, MT, f4⟩
end TEL
