/-! The landed object's state in words; its history and its acts. -/
/-- book; how many can be undone, and they; how many bytes, and they; the latest fault's kind -/
abbrev AS : Type := BK × (Nat × (Nat → BK)) × (Nat × (Nat → Nat)) × Nat
def as_b (σ : AS) : BK := σ.1
def as_c (σ : AS) : Nat := σ.2.1.1
def as_h (σ : AS) : Nat → BK := σ.2.1.2
def as_l (σ : AS) : Nat := σ.2.2.1.1
def as_y (σ : AS) : Nat → Nat := σ.2.2.1.2
def as_f (σ : AS) : Nat := σ.2.2.2
def hR (S : RSt) (c : Nat) (hist : Nat → BK) : Prop := c ≤ 10 ∧ st_i S 43 = nI c ∧ ∃ nx, nx < 10 ∧ st_i S 44 = nI nx ∧ ∀ i, i < c → cB S (3 + (nx + 9 - i) % 10) (hist i) ∧ bk_c (hist i) ≤ 18
def tR (S : RSt) (σ : AS) : Prop := as_l σ ≤ 540 ∧ st_i S 45 = nI (as_l σ) ∧ (∀ k, as_y σ k < 256) ∧ (∀ k, k < as_l σ → st_a S 112 k = sb_b (as_y σ k)) ∧ as_f σ ≤ 3 ∧ st_i S 46 = nI (as_f σ)
def cI (S : RSt) (σ : AS) : Prop := (cB S 0 (as_b σ) ∧ bk_c (as_b σ) ≤ 18) ∧ hR S (as_c σ) (as_h σ) ∧ tR S σ
/-- the parts of the first fit, and whether it stands, are as they were -/
def fF (S S' : RSt) : Prop := fr (fun k => k ≠ 39 ∧ k ≠ 40 ∧ k ≠ 54) (fun k => k ≠ 0) (fun a => a ≠ 26 ∧ ¬ (28 ≤ a ∧ a < 70)) (fun a => a ≠ 0) S S'
def fH : RSt → RSt → Prop := fr (fun k => (9 ≤ k ∧ k < 39) ∨ k = 43 ∨ k = 44) no (fun a => 6 ≤ a ∧ a < 26) no
theorem hR_fr {I J A G : Nat → Prop} {S S' : RSt} {c : Nat} {hist : Nat → BK} (h : hR S c hist) (f : fr I J A G S S') (h1 : ∀ k, 9 ≤ k → k < 39 → ¬ I k) (h2 : ¬ I 43) (h3 : ¬ I 44) (h4 : ∀ a, 6 ≤ a → a < 26 → ¬ A a) : hR S' c hist := by
  obtain ⟨hc, e1, nx, hnx, e2, hh⟩ := h
  refine ⟨hc, by rw [f.1 _ h2]; exact e1, nx, hnx, by rw [f.1 _ h3]; exact e2, fun i hi => ⟨?_, (hh i hi).2⟩⟩
  have : (nx + 9 - i) % 10 < 10 := Nat.mod_lt _ (by decide)
  exact cB_fr (hh i hi).1 f (h1 _ (by omega) (by omega)) (h1 _ (by omega) (by omega)) (h1 _ (by omega) (by omega)) (h4 _ (by omega) (by omega)) (h4 _ (by omega) (by omega))
theorem tR_fr {I J A G : Nat → Prop} {S S' : RSt} {σ : AS} (h : tR S σ) (f : fr I J A G S S') (h1 : ¬ I 45) (h2 : ¬ I 46) (h3 : ¬ A 112) : tR S' σ := by
  obtain ⟨a1, a2, a3, a4, a5, a6⟩ := h
  refine ⟨a1, by rw [f.1 _ h1]; exact a2, a3, fun k hk => ?_, a5, by rw [f.1 _ h2]; exact a6⟩
  rw [f.2.2.1 _ h3]
  exact a4 k hk
/-- the history with one more, at most ten -/
def hs_push (c : Nat) (hist : Nat → BK) (β : BK) : Nat × (Nat → BK) := (if c < 10 then c + 1 else 10, fun i => match i with
  | 0 => β
  | i + 1 => hist i)
def hs_pop (c : Nat) (hist : Nat → BK) : Nat × (Nat → BK) := (c - 1, fun i => hist (i + 1))
section CHS
variable {S S' : RSt} {σ : AS} {β : BK} {c : Nat} {hist : Nat → BK}
theorem c_keep (B : cB S 0 β) (hb : bk_c β ≤ 18) (h : hR S c hist) : ∃ S', fX2_keep 0 S = some S' ∧ hR S' (hs_push c hist β).1 (hs_push c hist β).2 ∧ fH S S' := by
  obtain ⟨hc, e1, nx, hnx, e2, hh⟩ := h
  obtain ⟨S1, f1, B1, F1⟩ := c_copyFrom (j := 3 + nx) B (by omega)
  have F1' : fH S S1 := fr_mo F1 (fun k z => Or.inl (by omega)) (fun _ z => z) (fun k z => by omega) (fun _ z => z)
  have e43 : st_i S1 43 = nI c := by rw [F1.1 43 (by omega)]; exact e1
  have e44 : st_i S1 44 = nI nx := by rw [F1.1 44 (by omega)]; exact e2
  have hmin : (if (10 : Int32) < nI c + 1 then (10 : Int32) else nI c + 1) = nI (hs_push c hist β).1 := by
    rw [nI_1]
    show _ = nI (if c < 10 then c + 1 else 10)
    by_cases q : c < 10
    · rw [if_pos q, if_neg (show ¬ (10 : Int32) < nI (c + 1) from nI_nlt (a := 10) (by omega) (by omega))]
    · rw [if_neg q, if_pos (show (10 : Int32) < nI (c + 1) from nI_lt (a := 10) (by omega) (by omega))]
      rfl
  have key : ∀ nx' : Nat, nx' = (nx + 1) % 10 → hR (st_si (st_si S1 44 (nI nx')) 43 (nI (hs_push c hist β).1)) (hs_push c hist β).1 (hs_push c hist β).2 := by
    intro nx' hnx'
    have hp : (hs_push c hist β).1 = if c < 10 then c + 1 else 10 := rfl
    have fr2 : fr (fun k => k = 43 ∨ k = 44) no no no S1 (st_si (st_si S1 44 (nI nx')) 43 (nI (hs_push c hist β).1)) := fr_tr (fr_si (Or.inr rfl)) (fr_si (Or.inl rfl))
    refine ⟨by rw [hp]; split <;> omega, st_i_eq, nx', by omega, by rw [st_i_ne (by decide), st_i_eq], fun i hi => ?_⟩
    have hi9 : i ≤ 9 := by rw [hp] at hi; split at hi <;> omega
    match i with
    | 0 =>
      rw [show 3 + (nx' + 9 - 0) % 10 = 3 + nx by omega]
      exact ⟨cB_fr B1 fr2 (by omega) (by omega) (by omega) (fun z => z) (fun z => z), hb⟩
    | i + 1 =>
      have hic : i < c := by rw [hp] at hi; split at hi <;> omega
      have hx := hh i hic
      rw [show 3 + (nx' + 9 - (i + 1)) % 10 = 3 + (nx + 9 - i) % 10 by omega]
      refine ⟨cB_fr (cB_fr hx.1 F1 (by omega) (by omega) (by omega) (by omega) (by omega)) fr2 (by omega) (by omega) (by omega) (fun z => z) (fun z => z), hx.2⟩
  have fin : ∀ x : Int32, fH S (st_si (st_si S1 44 x) 43 (nI (hs_push c hist β).1)) := fun x => fr_tr F1' (fr_tr (fr_si (Or.inr (Or.inr rfl))) (fr_si (Or.inr (Or.inl rfl))))
  unfold fX2_keep
  rw [e2, ob_in_t (vp_in_nI hnx (by decide)), nI_clamp (by omega), ob_1t f1]
  simp only [ob_j]
  rw [e44, nI_1]
  by_cases q : nx + 1 < 10
  · refine ⟨_, ?_, key (nx + 1) (by omega), fin _⟩
    rw [if_neg (show ¬ (10 : Int32) ≤ nI (nx + 1) from nI_ge (b := 10) q (by decide)), st_i_ne (by decide), e43, hmin]
  · refine ⟨_, ?_, key 0 (by omega), fin _⟩
    rw [if_pos (show (10 : Int32) ≤ nI (nx + 1) from nI_le (a := 10) (by omega) (by omega)), st_i_ne (by decide), e43, hmin]
    rfl
theorem c_giveBack0 (h : hR S 0 hist) : fX2_giveBack 0 S = some (0, S) := by
  unfold fX2_giveBack
  rw [h.2.1, if_pos (show nI 0 = 0 from rfl)]
theorem c_giveBack1 (h : hR S (c + 1) hist) : ∃ S', fX2_giveBack 0 S = some (1, S') ∧ cB S' 0 (hist 0) ∧ hR S' c (fun i => hist (i + 1)) ∧ fr (fun k => k < 3 ∨ k = 43 ∨ k = 44) no (fun a => a < 2) no S S' := by
  obtain ⟨hc, e1, nx, hnx, e2, hh⟩ := h
  have key : ∀ nx' : Nat, nx' = (nx + 9) % 10 → ∃ S', ob_in (nI nx') 10 (ob_1 (fX0_copyFrom 0 (3 + (nI nx').toNatClampNeg) (st_si S 44 (nI nx'))) fun S_7 => some ((1 : Int32), st_si S_7 43 (st_i S_7 43 - 1))) = some (1, S') ∧ cB S' 0 (hist 0) ∧ hR S' c (fun i => hist (i + 1)) ∧ fr (fun k => k < 3 ∨ k = 43 ∨ k = 44) no (fun a => a < 2) no S S' := by
    intro nx' hnx'
    have f0 : fr (fun k => k = 44) no no no S (st_si S 44 (nI nx')) := fr_si rfl
    have B0 := (hh 0 (by omega)).1
    rw [show 3 + (nx + 9 - 0) % 10 = 3 + nx' by omega] at B0
    have B0 := cB_fr B0 f0 (by omega) (by omega) (by omega) (fun z => z) (fun z => z)
    obtain ⟨S1, g1, B1, F1⟩ := c_copyFrom (j := 0) B0 (by omega)
    have e43 : st_i S1 43 = nI (c + 1) := by rw [F1.1 43 (by omega), f0.1 43 (by decide)]; exact e1
    have e44 : st_i S1 44 = nI nx' := by rw [F1.1 44 (by omega), st_i_eq]
    have f3 : fr (fun k => k = 43) no no no S1 (st_si S1 43 (nI c)) := fr_si rfl
    refine ⟨st_si S1 43 (nI c), ?_, cB_fr B1 f3 (by omega) (by omega) (by omega) (fun z => z) (fun z => z), ⟨by omega, st_i_eq, nx', by omega, by rw [st_i_ne (by decide)]; exact e44, fun i hi => ?_⟩, ?_⟩
    · rw [ob_in_t (vp_in_nI (by omega) (by decide)), nI_clamp (by omega), ob_1t g1, e43, nI_pred]
    · have hx := hh (i + 1) (by omega)
      rw [show 3 + (nx' + 9 - i) % 10 = 3 + (nx + 9 - (i + 1)) % 10 by omega]
      have : (nx + 9 - (i + 1)) % 10 < 10 := Nat.mod_lt _ (by decide)
      exact ⟨cB_fr (cB_fr (cB_fr hx.1 f0 (by omega) (by omega) (by omega) (fun z => z) (fun z => z)) F1 (by omega) (by omega) (by omega) (by omega) (by omega)) f3 (by omega) (by omega) (by omega) (fun z => z) (fun z => z), hx.2⟩
    · exact fr_tr (fr_tr (fr_mo f0 (fun k z => by omega) (fun _ z => z) (fun _ z => z.elim) (fun _ z => z)) (fr_mo F1 (fun k z => by omega) (fun _ z => z) (fun k z => by omega) (fun _ z => z))) (fr_mo f3 (fun k z => by omega) (fun _ z => z) (fun _ z => z.elim) (fun _ z => z))
  unfold fX2_giveBack
  simp only [ob_j]
  rw [e1, if_neg (nI_ne0 (by omega) (by omega)), e2]
  by_cases q : nx = 0
  · subst q
    rw [if_pos (show nI 0 ≤ 0 by decide), st_i_eq, show (9 : Int32) = nI 9 from rfl]
    exact key 9 (by omega)
  · rw [if_neg (nI_nle (by omega) (by omega)), st_i_eq, show nI nx - 1 = nI (nx - 1) by rw [show nx = (nx - 1) + 1 by omega, nI_pred]; rfl]
    exact key (nx - 1) (by omega)
/-- the state ahead of an act is kept; the fit stands no more -/
theorem c_beginAct (I : cI S σ) : ∃ S', fX4_beginAct S = some S' ∧ cI S' (as_b σ, hs_push (as_c σ) (as_h σ) (as_b σ), σ.2.2) ∧ st_i S' 54 = 0 := by
  obtain ⟨⟨hB, hb⟩, hH, hT⟩ := I
  obtain ⟨S1, e1, h1, F1⟩ := c_keep hB hb hH
  have f2 : fr (fun k => k = 54) no no no S1 (st_si S1 54 0) := fr_si rfl
  refine ⟨st_si S1 54 0, ?_, ⟨⟨?_, hb⟩, ?_, ?_⟩, st_i_eq⟩
  · unfold fX4_beginAct
    rw [ob_1t e1]
  · exact cB_fr (cB_fr hB F1 (by omega) (by omega) (by omega) (by omega) (by omega)) f2 (by omega) (by omega) (by omega) (fun z => z) (fun z => z)
  · exact hR_fr h1 f2 (by omega) (by omega) (by omega) (fun _ _ _ z => z)
  · exact tR_fr (σ := (as_b σ, hs_push (as_c σ) (as_h σ) (as_b σ), σ.2.2)) (tR_fr (σ := (as_b σ, hs_push (as_c σ) (as_h σ) (as_b σ), σ.2.2)) hT F1 (by omega) (by omega) (by omega)) f2 (by omega) (by omega) (fun z => z)
/-- a new book in the place of the first one -/
theorem cI_book {S S' : RSt} {σ : AS} (I : cI S σ) {β : BK} (B : cB S' 0 β) (hb : bk_c β ≤ 18) (F : fB 0 S S') : cI S' (β, σ.2) := by
  obtain ⟨-, hH, hT⟩ := I
  exact ⟨⟨B, hb⟩, hR_fr hH F (by omega) (by omega) (by omega) (by omega), tR_fr (σ := (β, σ.2)) hT F (by omega) (by omega) (by omega)⟩
end CHS
