/-! The reference's state in the same words; its history. -/
def mH (S : RSt) (c : Nat) (hist : Nat → BK) : Prop := c ≤ 10 ∧ st_i S 9 = nI c ∧ ∀ i, i < c → mB S 3 (58 * (c - 1 - i)) (hist i)
def mT (S : RSt) (σ : AS) : Prop := st_i S 1 = nI (as_l σ) ∧ (∀ k, k < as_l σ → st_a S 0 k = nI (as_y σ k)) ∧ st_i S 7 = nI (as_f σ)
def mI (S : RSt) (σ : AS) : Prop := mB S 1 0 (as_b σ) ∧ mH S (as_c σ) (as_h σ) ∧ mT S σ
theorem mB_row {S S' : RSt} {a a' b b' : Nat} {β : BK} (h : mB S a b β) (e : ∀ k, k < 58 → st_a S' a' (b' + k) = st_a S a (b + k)) : mB S' a' b' β := by
  obtain ⟨h0, h1, h2, h3, h4⟩ := h
  refine ⟨h0, ?_, ?_, fun g hg => ?_, fun k hk => ?_⟩
  · have := e 0 (by decide)
    rw [Nat.add_zero, Nat.add_zero] at this
    rw [this, h1]
  · rw [e 1 (by decide), h2]
  · rw [Nat.add_assoc, e (2 + g) (by omega), ← Nat.add_assoc, h3 g hg]
  · rw [Nat.add_assoc, e (10 + k) (by omega), ← Nat.add_assoc, h4 k hk]
theorem mH_fr {I J A G : Nat → Prop} {S S' : RSt} {c : Nat} {hist : Nat → BK} (h : mH S c hist) (f : fr I J A G S S') (h1 : ¬ I 9) (h2 : ¬ A 3) : mH S' c hist := ⟨h.1, by rw [f.1 _ h1]; exact h.2.1, fun i hi => mB_fr (h.2.2 i hi) f h2⟩
theorem mT_fr {I J A G : Nat → Prop} {S S' : RSt} {σ : AS} (h : mT S σ) (f : fr I J A G S S') (h1 : ¬ I 1) (h2 : ¬ I 7) (h3 : ¬ A 0) : mT S' σ := ⟨by rw [f.1 _ h1]; exact h.1, fun k hk => by rw [f.2.2.1 _ h3]; exact h.2.1 k hk, by rw [f.1 _ h2]; exact h.2.2⟩
theorem mI_fr {I J A G : Nat → Prop} {S S' : RSt} {σ : AS} (h : mI S σ) (f : fr I J A G S S') (h1 : ¬ I 1) (h2 : ¬ I 7) (h3 : ¬ I 9) (h4 : ¬ A 0) (h5 : ¬ A 1) (h6 : ¬ A 3) : mI S' σ := ⟨mB_fr h.1 f h5, mH_fr h.2.1 f h3 h6, mT_fr h.2.2 f h1 h2 h4⟩
theorem mI_t {S : RSt} {σ : AS} (h : mI S σ) (v : Int32) : mI (st_si S 0 v) σ := mI_fr (I := fun k => k = 0) (J := no) (A := no) (G := no) h (fr_si rfl) (by omega) (by omega) (by omega) (fun z => z) (fun z => z) (fun z => z)
section MHS
variable {S S' : RSt} {σ : AS} {β : BK} {c : Nat} {hist : Nat → BK}
theorem m_snapA {c : Nat} (hc : c < 10) (e9 : st_i S 9 = nI c) : ∃ S', fX5_snap_L51 1000 0 S = some S' ∧ (∀ k, k < 58 → st_a S' 3 (58 * c + k) = st_a S 1 k) ∧ (∀ k, k < 58 * c → st_a S' 3 k = st_a S 3 k) ∧ fr no no (fun a => a = 3) no S S' := by
  obtain ⟨S', e, h⟩ := lp_up (fun n i s => fX5_snap_L51 n (nI i) s) (fun i s => (∀ k, k < i → st_a s 3 (58 * c + k) = st_a S 1 k) ∧ (∀ k, k < 58 * c → st_a s 3 k = st_a S 3 k) ∧ fr no no (fun a => a = 3) no S s) 58 (fun r => (∀ k, k < 58 → st_a r 3 (58 * c + k) = st_a S 1 k) ∧ (∀ k, k < 58 * c → st_a r 3 k = st_a S 3 k) ∧ fr no no (fun a => a = 3) no S r)
    (fun n s h => ⟨s, by
      show fX5_snap_L51 (n + 1) (nI 58) s = some s
      rw [fX5_snap_L51, if_pos (show (58 : Int32) ≤ nI 58 from nI_le (a := 58) (Nat.le_refl _) (by decide))], h⟩)
    (fun n i s hi h => Or.inr (by
      obtain ⟨h1, h2, h3⟩ := h
      refine ⟨st_sa s 3 (58 * c + i) (st_a S 1 i), ⟨fun k hk => ?_, fun k hk => ?_, fr_tr h3 (fr_sa rfl)⟩, ?_⟩
      · rw [st_a_eq]
        unfold upd
        by_cases q : k = i
        · rw [if_pos (by omega), q]
        · rw [if_neg (by omega)]
          exact h1 k (by omega)
      · rw [st_a_eq]
        unfold upd
        rw [if_neg (by omega)]
        exact h2 k hk
      · show fX5_snap_L51 (n + 1) (nI i) s = fX5_snap_L51 n (nI (i + 1)) (st_sa s 3 (58 * c + i) (st_a S 1 i))
        rw [fX5_snap_L51, if_neg (show ¬ (58 : Int32) ≤ nI i from nI_ge (b := 58) hi (by decide)), ob_in_t (vp_in_nI hi (by decide)), h3.1 9 (fun z => z), e9, show (58 : Int32) * nI c + nI i = nI (58 * c + i) by rw [show (58 : Int32) = nI 58 from rfl, pk_mul, nI_add], ob_in_t (vp_in_nI (by omega) (by decide)), nI_clamp (by omega), nI_clamp (by omega), nI_1, h3.2.2.1 1 (by decide)]))
    58 0 1000 S (by omega) (by omega) ⟨fun k hk => absurd hk (Nat.not_lt_zero k), fun _ _ => rfl, fr_rf⟩
  exact ⟨S', e, h⟩
theorem m_snapB : ∃ S', fX5_snap_L11 1000 0 S = some S' ∧ (∀ k, k < 522 → st_a S' 3 k = st_a S 3 (k + 58)) ∧ fr no no (fun a => a = 3) no S S' := by
  obtain ⟨S', e, h⟩ := lp_up (fun n i s => fX5_snap_L11 n (nI i) s) (fun i s => (∀ k, k < i → st_a s 3 k = st_a S 3 (k + 58)) ∧ (∀ k, i ≤ k → st_a s 3 k = st_a S 3 k) ∧ fr no no (fun a => a = 3) no S s) 522 (fun r => (∀ k, k < 522 → st_a r 3 k = st_a S 3 (k + 58)) ∧ fr no no (fun a => a = 3) no S r)
    (fun n s h => ⟨s, by
      show fX5_snap_L11 (n + 1) (nI 522) s = some s
      rw [fX5_snap_L11, if_pos (show (522 : Int32) ≤ nI 522 from nI_le (a := 522) (Nat.le_refl _) (by decide))], h.1, h.2.2⟩)
    (fun n i s hi h => Or.inr (by
      obtain ⟨h1, h2, h3⟩ := h
      refine ⟨st_sa s 3 i (st_a S 3 (i + 58)), ⟨fun k hk => ?_, fun k hk => ?_, fr_tr h3 (fr_sa rfl)⟩, ?_⟩
      · rw [st_a_eq]
        unfold upd
        by_cases q : k = i
        · rw [if_pos q, q]
        · rw [if_neg q]
          exact h1 k (by omega)
      · rw [st_a_eq]
        unfold upd
        rw [if_neg (by omega)]
        exact h2 k (by omega)
      · show fX5_snap_L11 (n + 1) (nI i) s = fX5_snap_L11 n (nI (i + 1)) (st_sa s 3 i (st_a S 3 (i + 58)))
        rw [fX5_snap_L11, if_neg (show ¬ (522 : Int32) ≤ nI i from nI_ge (b := 522) hi (by decide)), show nI i + (58 : Int32) = nI (i + 58) from nI_add i 58, ob_in_t (vp_in_nI (by omega) (by decide)), ob_in_t (vp_in_nI (by omega) (by decide)), nI_clamp (by omega), nI_clamp (by omega), nI_1, h2 (i + 58) (by omega)]))
    522 0 1000 S (by omega) (by omega) ⟨fun k hk => absurd hk (Nat.not_lt_zero k), fun _ _ => rfl, fr_rf⟩
  exact ⟨S', e, h⟩
theorem m_snap (B : mB S 1 0 β) (h : mH S c hist) : ∃ S', fX5_snap S = some S' ∧ mH S' (hs_push c hist β).1 (hs_push c hist β).2 ∧ fr (fun k => k = 9) no (fun a => a = 3) no S S' := by
  obtain ⟨hc, e9, hh⟩ := h
  -- the row that comes, over c rows that stand
  have key : ∀ (T : RSt) (d : Nat), d < 10 → st_i T 9 = nI d → mB T 1 0 β → (∀ i, i < d → mB T 3 (58 * (d - 1 - i)) (hist i)) → ∃ S', ob_1 (fX5_snap_L51 1000 (0 : Int32) T) (fun S_7 => some (st_si S_7 9 (st_i S_7 9 + 1))) = some S' ∧ mH S' (d + 1) (hs_push c hist β).2 ∧ fr (fun k => k = 9) no (fun a => a = 3) no T S' := by
    intro T d hd e9 hB hrows
    obtain ⟨S1, e1, r1, r2, F⟩ := m_snapA hd e9
    have f2 : fr (fun k => k = 9) no no no S1 (st_si S1 9 (nI (d + 1))) := fr_si rfl
    refine ⟨st_si S1 9 (nI (d + 1)), by rw [ob_1t e1, F.1 9 (fun z => z), e9, nI_1], ⟨by omega, st_i_eq, fun i hi => ?_⟩, fr_tr (fr_mo F (fun _ z => z.elim) (fun _ z => z) (fun _ z => z) (fun _ z => z)) (fr_mo f2 (fun _ z => z) (fun _ z => z) (fun _ z => z.elim) (fun _ z => z))⟩
    match i with
    | 0 =>
      refine mB_row (b' := 58 * (d + 1 - 1 - 0)) hB (fun k hk => ?_)
      rw [st_a_si, show d + 1 - 1 - 0 = d by omega, r1 k hk, Nat.zero_add]
    | i + 1 =>
      refine mB_row (b' := 58 * (d + 1 - 1 - (i + 1))) (hrows i (by omega)) (fun k hk => ?_)
      rw [st_a_si, show d + 1 - 1 - (i + 1) = d - 1 - i by omega, r2 _ (by omega)]
  unfold fX5_snap
  simp only [ob_j]
  by_cases q : c = 10
  · subst q
    rw [e9, if_pos (show nI 10 = 10 from rfl)]
    obtain ⟨S1, e1, r1, F⟩ := m_snapB (S := S)
    have f2 : fr (fun k => k = 9) no no no S1 (st_si S1 9 (nI 9)) := fr_si rfl
    obtain ⟨S2, e2, h2, F2⟩ := key (st_si S1 9 (nI 9)) 9 (by decide) st_i_eq (mB_fr (mB_fr B F (by decide)) f2 (fun z => z)) (fun i hi => by
      refine mB_row (b' := 58 * (9 - 1 - i)) (hh i (by omega)) (fun k hk => ?_)
      rw [st_a_si, r1 _ (by omega), show 58 * (9 - 1 - i) + k + 58 = 58 * (10 - 1 - i) + k by omega])
    refine ⟨S2, ?_, h2, fr_tr (fr_tr (fr_mo F (fun _ z => z.elim) (fun _ z => z) (fun _ z => z) (fun _ z => z)) (fr_mo f2 (fun _ z => z) (fun _ z => z) (fun _ z => z.elim) (fun _ z => z))) F2⟩
    rw [ob_1t e1, F.1 9 (fun z => z), e9, show nI 10 - 1 = nI 9 from rfl]
    exact e2
  · rw [e9, if_neg (show ¬ nI c = (10 : Int32) from fun z => q ((nI_eq (b := 10) (by omega) (by decide)).mp z))]
    obtain ⟨S2, e2, h2, F2⟩ := key S c (by omega) e9 B hh
    refine ⟨S2, e2, ?_, F2⟩
    have : (hs_push c hist β).1 = c + 1 := if_pos (by omega)
    rw [this]
    exact h2
theorem m_undoL {c : Nat} (hc : c < 10) (e9 : st_i S 9 = nI c) : ∃ S', fX5_undo_L26 1000 0 S = some S' ∧ (∀ k, k < 58 → st_a S' 1 k = st_a S 3 (58 * c + k)) ∧ fr no no (fun a => a = 1) no S S' := by
  obtain ⟨S', e, h⟩ := lp_up (fun n i s => fX5_undo_L26 n (nI i) s) (fun i s => (∀ k, k < i → st_a s 1 k = st_a S 3 (58 * c + k)) ∧ fr no no (fun a => a = 1) no S s) 58 (fun r => (∀ k, k < 58 → st_a r 1 k = st_a S 3 (58 * c + k)) ∧ fr no no (fun a => a = 1) no S r)
    (fun n s h => ⟨s, by
      show fX5_undo_L26 (n + 1) (nI 58) s = some s
      rw [fX5_undo_L26, if_pos (show (58 : Int32) ≤ nI 58 from nI_le (a := 58) (Nat.le_refl _) (by decide))], h⟩)
    (fun n i s hi h => Or.inr (by
      obtain ⟨h1, h3⟩ := h
      refine ⟨st_sa s 1 i (st_a S 3 (58 * c + i)), ⟨fun k hk => ?_, fr_tr h3 (fr_sa rfl)⟩, ?_⟩
      · rw [st_a_eq]
        unfold upd
        by_cases q : k = i
        · rw [if_pos q, q]
        · rw [if_neg q]
          exact h1 k (by omega)
      · show fX5_undo_L26 (n + 1) (nI i) s = fX5_undo_L26 n (nI (i + 1)) (st_sa s 1 i (st_a S 3 (58 * c + i)))
        rw [fX5_undo_L26, if_neg (show ¬ (58 : Int32) ≤ nI i from nI_ge (b := 58) hi (by decide)), h3.1 9 (fun z => z), e9, show (58 : Int32) * nI c + nI i = nI (58 * c + i) by rw [show (58 : Int32) = nI 58 from rfl, pk_mul, nI_add], ob_in_t (vp_in_nI (by omega) (by decide)), ob_in_t (vp_in_nI (by omega) (by decide)), nI_clamp (by omega), nI_clamp (by omega), nI_1, h3.2.2.1 3 (by decide)]))
    58 0 1000 S (by omega) (by omega) ⟨fun k hk => absurd hk (Nat.not_lt_zero k), fr_rf⟩
  exact ⟨S', e, h⟩
/-- a written level or weight of the reference's book -/
theorem m_write (B : mB S 1 0 β) {a b x : Nat} (ha : a < bk_h β) (hb : b < bk_n β) (hx : x ≤ 1000) : mB (st_sa S 1 (10 + (8 * a + b)) (nI x)) 1 0 (bk_set β (8 * a + b) x) := by
  have h1 := B.1.2.2.1
  have h2 := B.1.2.1
  refine ⟨bk_set_ok B.1 ha hb hx, ?_, ?_, fun g hg => ?_, fun k hk => ?_⟩
  · rw [st_a_eq]
    unfold upd
    rw [if_neg (by omega)]
    exact B.2.1
  · rw [st_a_eq]
    unfold upd
    rw [if_neg (by omega)]
    exact B.2.2.1
  · rw [st_a_eq]
    unfold upd
    rw [if_neg (by omega)]
    exact B.2.2.2.1 g hg
  · rw [st_a_eq]
    show _ = nI (va_up (bk_v β) (8 * a + b) x k)
    unfold va_up upd
    by_cases e : k = 8 * a + b
    · rw [if_pos e, if_pos (by omega)]
    · rw [if_neg e, if_neg (by omega)]
      exact B.2.2.2.2 k hk
theorem m_weigh (B : mB S 1 0 β) {g x : Nat} (hg : 0 < g) (hg2 : g < bk_n β) (hx : x ≤ 3) : mB (st_sa S 1 (2 + g) (nI x)) 1 0 (bk_weigh β g x) := by
  have h2 := B.1.2.1
  refine ⟨bk_weigh_ok B.1 hg hg2 hx, ?_, ?_, fun k hk => ?_, fun k hk => ?_⟩
  · rw [st_a_eq]
    unfold upd
    rw [if_neg (by omega)]
    exact B.2.1
  · rw [st_a_eq]
    unfold upd
    rw [if_neg (by omega)]
    exact B.2.2.1
  · rw [st_a_eq]
    show _ = nI (va_up (bk_w β) g x k)
    unfold va_up upd
    by_cases e : k = g
    · rw [if_pos e, if_pos (by omega)]
    · rw [if_neg e, if_neg (by omega)]
      exact B.2.2.2.1 k hk
  · rw [st_a_eq]
    unfold upd
    rw [if_neg (by omega)]
    exact B.2.2.2.2 k hk
end MHS
