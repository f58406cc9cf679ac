/-! The grammar, both sides at once. -/
theorem tk_b {y : Nat → Nat} {L p : Nat} (hp : p ≤ L) : ((tkD y L p).1 = 0 → (tkD y L p).2.1 = min L 500) ∧ p ≤ (tkD y L p).2.2.1 ∧ (tkD y L p).2.2.1 ≤ L ∧ ((tkD y L p).1 ≠ 0 → p ≤ (tkD y L p).2.1 ∧ (tkD y L p).2.1 < 500 ∧ (tkD y L p).2.1 < (tkD y L p).2.2.1) ∧ (tkD y L p).1 ≤ 7 ∧ ((tkD y L p).1 = 2 → (tkD y L p).2.2.2 ≤ 999) ∧ (tkD y L p).2.1 ≤ 500 := by
  have sb := sk_b y (L - p) p
  unfold tkD tkB
  generalize sk y (L - p) p = b at *
  by_cases c : L ≤ b ∨ 500 ≤ b
  · rw [if_pos c]
    refine ⟨fun _ => rfl, by show p ≤ b; omega, by show b ≤ L; omega, fun z => absurd rfl z, by show (0 : Nat) ≤ 7; omega, fun z => absurd (show (0 : Nat) = 2 from z) (by decide), by show min L 500 ≤ 500; omega⟩
  · rw [if_neg c]
    by_cases g : ru (y b)
    · rw [if_pos g]
      have rb := rn_b y (L - b) b
      have rp : b < rn y (L - b) b := by
        have q := rn_b y (L - b - 1) (b + 1)
        rw [show L - b = (L - b - 1) + 1 by omega, rn, if_pos g]
        omega
      unfold tkR
      generalize rn y (L - b) b = e at *
      by_cases d : dc y b (e - b) = 0
      · rw [if_pos d]
        have vv := wk_v (wN y b (min (e - b) 7))
        refine ⟨fun z => ?_, by show p ≤ e; omega, by show e ≤ L; omega, fun _ => ⟨by show p ≤ b; omega, by show b < 500; omega, by show b < e; omega⟩, ?_, fun z => ?_, by show b ≤ 500; omega⟩
        · have z : wk (wN y b (min (e - b) 7)) = 0 := z
          omega
        · show wk (wN y b (min (e - b) 7)) ≤ 7
          omega
        · have z : wk (wN y b (min (e - b) 7)) = 2 := z
          omega
      · rw [if_neg d]
        by_cases h : dc y b (e - b) = e - b ∧ e - b ≤ 3
        · rw [if_pos h]
          refine ⟨fun z => absurd (show (2 : Nat) = 0 from z) (by decide), by show p ≤ e; omega, by show e ≤ L; omega, fun _ => ⟨by show p ≤ b; omega, by show b < 500; omega, by show b < e; omega⟩, by show (2 : Nat) ≤ 7; omega, fun _ => vN_999 y b _ h.2 (dc_k y b _ h.1), by show b ≤ 500; omega⟩
        · rw [if_neg h]
          refine ⟨fun z => absurd (show (1 : Nat) = 0 from z) (by decide), by show p ≤ e; omega, by show e ≤ L; omega, fun _ => ⟨by show p ≤ b; omega, by show b < 500; omega, by show b < e; omega⟩, by show (1 : Nat) ≤ 7; omega, fun z => absurd (show (1 : Nat) = 2 from z) (by decide), by show b ≤ 500; omega⟩
    · rw [if_neg g]
      by_cases h : y b = 59
      · rw [if_pos h]
        refine ⟨fun z => absurd (show (3 : Nat) = 0 from z) (by decide), by show p ≤ b + 1; omega, by show b + 1 ≤ L; omega, fun _ => ⟨by show p ≤ b; omega, by show b < 500; omega, by show b < b + 1; omega⟩, by show (3 : Nat) ≤ 7; omega, fun z => absurd (show (3 : Nat) = 2 from z) (by decide), by show b ≤ 500; omega⟩
      · rw [if_neg h]
        refine ⟨fun z => absurd (show (1 : Nat) = 0 from z) (by decide), by show p ≤ b + 1; omega, by show b + 1 ≤ L; omega, fun _ => ⟨by show p ≤ b; omega, by show b < 500; omega, by show b < b + 1; omega⟩, by show (1 : Nat) ≤ 7; omega, fun z => absurd (show (1 : Nat) = 2 from z) (by decide), by show b ≤ 500; omega⟩
def fX : RSt → RSt → Prop := fr (fun k => (6 ≤ k ∧ k < 9) ∨ (46 ≤ k ∧ k < 54)) no (fun a => a = 4 ∨ a = 5) no
def gX : RSt → RSt → Prop := fr (fun k => (3 ≤ k ∧ k < 9) ∨ (10 ≤ k ∧ k < 13)) (fun k => k = 0) (fun a => a = 2) no
def gX0 : RSt → RSt → Prop := fr (fun k => (3 ≤ k ∧ k < 7) ∨ (10 ≤ k ∧ k < 13)) (fun k => k = 0) (fun a => a = 2) no
/-- the landed side ahead of a token -/
def PC (S0 S : RSt) (y : Nat → Nat) (L : Nat) (β : BK) (d ln p x : Nat) : Prop := tp1 S y L ∧ p ≤ L ∧ x ≤ p ∧ x ≤ 500 ∧ ln ≤ x ∧ cB S 2 β ∧ bk_c β ≤ 18 ∧ st_i S 47 = nI ln ∧ st_i S 52 = nI d ∧ st_i S 46 = 0 ∧ st_i S 49 = nI p ∧ ¬ st_i S 50 = 0 ∧ fX S0 S
/-- behind it -/
def PS (S0 S : RSt) (y : Nat → Nat) (L : Nat) (β : BK) (d ln p x : Nat) : Prop := tp1 S y L ∧ p ≤ L ∧ x ≤ p ∧ x ≤ 500 ∧ ln ≤ x ∧ cB S 2 β ∧ bk_c β ≤ 18 ∧ st_i S 47 = nI ln ∧ st_i S 52 = nI d ∧ st_i S 46 = 0 ∧ ctk S (tkD y L p) ∧ fX S0 S
def CR (x : Nat) (S : RSt) : Option RSt := fX3_read_L35 (1000 - x) (nI x) S
/-- a number is due: what take does there, told apart -/
def fX3_takeNumber (S : RSt) : Option (Int32 × RSt) := (if (st_i S 52) = (1 : Int32) then (ob_2 (fX3_takeMonths S) fun r_3 S_4 => (some (r_3, S_4))) else (if (st_i S 52) = (2 : Int32) then (ob_2 (fX3_takeGap S) fun r_7 S_8 => (some (r_7, S_8))) else (if (st_i S 52) = (3 : Int32) then (ob_2 (fX3_takeWeight S) fun r_11 S_12 => (some (r_11, S_12))) else (if (st_i S 52) = (4 : Int32) then (ob_2 (fX3_takeMonth S) fun r_15 S_16 => (some (r_15, S_16))) else (ob_2 (fX3_takeLevel S) fun r_18 S_19 => (some (r_18, S_19)))))))
theorem tn_eta (o : Option (Int32 × RSt)) : (ob_2 o fun r S => some (r, S)) = o := by
  cases o with
  | none => rfl
  | some a => rfl
theorem take_tn (S : RSt) : fX3_take S = (if (st_i S 50) = 0 then (if (st_i S 52) = 0 then (if (st_i S 47) ≤ 0 then (some ((1 : Int32), S)) else (if (500 : Int32) < (st_i S 45) then (some ((1 : Int32), S)) else (some ((0 : Int32), S)))) else (some ((1 : Int32), S))) else (if (st_i S 52) = 0 then (ob_2 (fX3_takeWord S) fun r_12 S_13 => (some (r_12, S_13))) else (if (st_i S 52) = (6 : Int32) then (ob_2 (fX3_takeSemicolon S) fun r_9 S_10 => (some (r_9, S_10))) else (if (st_i S 50) = (2 : Int32) then (ob_2 (fX3_takeNumber S) fun r_6 S_7 => (some (r_6, S_7))) else (some ((1 : Int32), S)))))) := by
  rw [tn_eta (fX3_takeNumber S)]
  rfl
section GRM
variable {S0 S T0 T : RSt} {y : Nat → Nat} {L : Nat} {β : BK} {d ln p x : Nat}
theorem C_it (P : PC S0 S y L β d ln p x) : ∃ S1, PS S0 S1 y L β d ln p x ∧ st_i S1 53 = st_i S 53 ∧ ∀ r S2, fX3_take S1 = some (r, S2) → CR x S = CR (x + 1) (st_si S2 46 r) := by
  obtain ⟨h1, h2, h3, h4, h5, h6, h7, h8, h9, h10, h11, h12, h13⟩ := P
  obtain ⟨S1, e1, k1, f1⟩ := c_step h1 h2 h11
  refine ⟨S1, ⟨tp1_fr h1 f1 (by omega) (fun z => z), h2, h3, h4, h5, cB_fr h6 f1 (by omega) (by omega) (by omega) (fun z => z) (fun z => z), h7, by rw [f1.1 _ (by omega)]; exact h8, by rw [f1.1 _ (by omega)]; exact h9, by rw [f1.1 _ (by omega)]; exact h10, k1, fr_tr h13 (fr_mo f1 (fun _ z => by omega) (fun _ z => z) (fun _ z => z.elim) (fun _ z => z))⟩, f1.1 _ (by omega), fun r S2 e2 => ?_⟩
  unfold CR
  rw [show 1000 - x = (1000 - (x + 1)) + 1 by omega, fX3_read_L35, if_neg (show ¬ (500 : Int32) < nI x from nI_nlt (a := 500) h4 (by decide)), if_neg h12, if_pos h10, ob_1t e1, ob_2t e2, nI_1]
theorem C_halt {x : Nat} (hx : x ≤ 600) (h : st_i S 50 = 0 ∨ ¬ st_i S 46 = 0) : CR x S = some S := by
  unfold CR
  rw [show 1000 - x = (1000 - (x + 1)) + 1 by omega, fX3_read_L35]
  split
  · rfl
  · split
    · rfl
    · rcases h with h | h
      · exact absurd h (by assumption)
      · rw [if_neg h]
/-- both find the same fault -/
def BJ (S0 T0 : RSt) (o1 : Option RSt) (o2 : Option (Int32 × RSt)) : Prop := ∃ f b S' T', o1 = some S' ∧ o2 = some (0, T') ∧ 0 < f ∧ f ≤ 3 ∧ b ≤ 540 ∧ st_i S' 46 = nI f ∧ st_i S' 48 = nI b ∧ st_i T' 7 = nI f ∧ st_i T' 8 = nI b ∧ fX S0 S' ∧ gX T0 T'
/-- the reference with a token in hand -/
def PM (T0 T : RSt) (y : Nat → Nat) (L : Nat) (β : BK) (ln p : Nat) : Prop := p ≤ L ∧ tp2 T y L ∧ mB T 2 0 β ∧ st_i T 11 = nI (bk_c β) ∧ st_i T 12 = nI ln ∧ mtk T L (tkD y L p) ∧ gX0 T0 T
theorem m_bad {w : Nat} (t : Nat × Nat × Nat × Nat) (K : mtk T L t) (g : gX0 T0 T) (hw : w = 1 ∨ ¬ st_i T 5 = 1) : ∃ T', fX5_bad (nI w) T = some (0, T') ∧ st_i T' 7 = nI w ∧ st_i T' 8 = nI t.2.1 ∧ gX T0 T' := by
  have fin : ∃ T', some ((0 : Int32), st_si (st_si T 7 (nI w)) 8 (st_i (st_si T 7 (nI w)) 4)) = some (0, T') ∧ st_i T' 7 = nI w ∧ st_i T' 8 = nI t.2.1 ∧ gX T0 T' := ⟨_, rfl, by rw [st_i_ne (by decide), st_i_eq], by rw [st_i_eq, st_i_ne (by decide)]; exact K.2.1, fr_tr (fr_mo g (fun _ z => by omega) (fun _ z => z) (fun _ z => z) (fun _ z => z)) (fr_tr (fr_si (by omega)) (fr_si (by omega)))⟩
  unfold fX5_bad
  by_cases c : st_i T 5 = 1
  · rw [ob_jp c]
    have := hw.resolve_right (fun z => z c)
    subst this
    exact fin
  · rw [ob_jn c]
    exact fin
theorem PM_go (P : PM T0 T y L β ln p) : ∃ T', fX5_go T = some T' ∧ PM T0 T' y L β ln (tkD y L p).2.2.1 ∧ gK T T' := by
  obtain ⟨h0, h1, h2, h3, h4, h5, h6⟩ := P
  have hp := (tk_b (y := y) h0).2.2.1
  obtain ⟨T', e, k, f⟩ := m_go h1 hp h5.1
  exact ⟨T', e, ⟨hp, tp2_fr h1 f (by omega) (fun z => z), mB_fr h2 f (fun z => z), by rw [f.1 _ (by omega)]; exact h3, by rw [f.1 _ (by omega)]; exact h4, k, fr_tr h6 (fr_mo f (fun _ z => by omega) (fun _ z => z) (fun _ z => z.elim) (fun _ z => z))⟩, f⟩
theorem PS_bad {S1 : RSt} (hCR : ∀ r S2, fX3_take S1 = some (r, S2) → CR x S = CR (x + 1) (st_si S2 46 r)) (P : PS S0 S1 y L β d ln p x) {f : Nat} (ht : fX3_take S1 = some (nI f, S1)) (hf : 0 < f) (hf3 : f ≤ 3) {o2 : Option (Int32 × RSt)} (hm : ∃ T', o2 = some (0, T') ∧ st_i T' 7 = nI f ∧ st_i T' 8 = nI (tkD y L p).2.1 ∧ gX T0 T') : BJ S0 T0 (CR x S) o2 := by
  obtain ⟨h1, h2, h3, h4, h5, h6, h7, h8, h9, h10, h11, h12⟩ := P
  obtain ⟨T', m1, m2, m3, m4⟩ := hm
  have tb := (tk_b (y := y) h2).2.2.2.2.2.2
  refine ⟨f, (tkD y L p).2.1, st_si S1 46 (nI f), T', ?_, m1, hf, hf3, by omega, st_i_eq, by rw [st_i_ne (by decide)]; exact h11.2.1, m2, m3, fr_tr h12 (fr_si (by omega)), m4⟩
  rw [hCR _ _ ht]
  exact C_halt (by omega) (Or.inr (by rw [st_i_eq]; exact nI_ne0 hf (by omega)))
def fY : RSt → RSt → Prop := fr (fun k => (6 ≤ k ∧ k < 9) ∨ k = 47 ∨ k = 52 ∨ k = 53) no (fun a => a = 4 ∨ a = 5) no
def fY0 : RSt → RSt → Prop := fr (fun k => k = 47 ∨ k = 52 ∨ k = 53) no no no
theorem fY_0 {S1 S2 : RSt} (f : fY0 S1 S2) : fY S1 S2 := fr_mo f (fun _ z => by omega) (fun _ z => z) (fun _ z => z.elim) (fun _ z => z)
theorem cB_0 {S1 S2 : RSt} {β : BK} (B : cB S1 2 β) (f : fY0 S1 S2) : cB S2 2 β := cB_fr B f (by omega) (by omega) (by omega) (fun z => z) (fun z => z)
theorem PS_ok {S1 S2 : RSt} {β' : BK} {d' ln' : Nat} (P : PS S0 S1 y L β d ln p x) (hk : (tkD y L p).1 ≠ 0) (f : fY S1 S2) (B : cB S2 2 β') (hc : bk_c β' ≤ 18) (e47 : st_i S2 47 = nI ln') (hl : ln' ≤ x + 1) (e52 : st_i S2 52 = nI d') : PC S0 (st_si S2 46 0) y L β' d' ln' (tkD y L p).2.2.1 (x + 1) := by
  obtain ⟨h1, h2, h3, h4, h5, h6, h7, h8, h9, h10, h11, h12⟩ := P
  obtain ⟨t1, t2, t3, t4, t5, t6, t7⟩ := tk_b (y := y) h2
  obtain ⟨u1, u2, u3⟩ := t4 hk
  have f46 : fr (fun k => k = 46) no no no S2 (st_si S2 46 0) := fr_si rfl
  refine ⟨tp1_fr (tp1_fr h1 f (by omega) (by omega)) f46 (by omega) (fun z => z), t3, by omega, by omega, hl, cB_fr B f46 (by omega) (by omega) (by omega) (fun z => z) (fun z => z), hc, by rw [st_i_ne (by decide)]; exact e47, by rw [st_i_ne (by decide)]; exact e52, st_i_eq, by rw [st_i_ne (by decide), f.1 49 (by omega)]; exact h11.2.2.1, ?_, fr_tr h12 (fr_tr (fr_mo f (fun _ z => by omega) (fun _ z => z) (fun _ z => z) (fun _ z => z)) (fr_si (by omega)))⟩
  rw [st_i_ne (by decide), f.1 50 (by omega), h11.1]
  exact nI_ne0 (by omega) (by omega)
/-- a number is due, or a semicolon -/
theorem take_d {S1 : RSt} (P : PS S0 S1 y L β d ln p x) (hd : d ≠ 0) (hd7 : d < 7) : fX3_take S1 = if (tkD y L p).1 = 0 then some (1, S1) else if d = 6 then (ob_2 (fX3_takeSemicolon S1) fun r S => some (r, S)) else if (tkD y L p).1 = 2 then (ob_2 (fX3_takeNumber S1) fun r S => some (r, S)) else some (1, S1) := by
  obtain ⟨h1, h2, h3, h4, h5, h6, h7, h8, h9, h10, h11, h12⟩ := P
  have t5 := (tk_b (y := y) h2).2.2.2.2.1
  have q0 : (nI (tkD y L p).1 = (0 : Int32)) ↔ (tkD y L p).1 = 0 := nI_eq (b := 0) (by omega) (by decide)
  have q2 : (nI (tkD y L p).1 = (2 : Int32)) ↔ (tkD y L p).1 = 2 := nI_eq (b := 2) (by omega) (by decide)
  have r0 : (nI d = (0 : Int32)) ↔ d = 0 := nI_eq (b := 0) (by omega) (by decide)
  have r6 : (nI d = (6 : Int32)) ↔ d = 6 := nI_eq (b := 6) (by omega) (by decide)
  rw [take_tn]
  rw [h11.1, h9]
  by_cases c : (tkD y L p).1 = 0
  · rw [if_pos (q0.mpr c), if_pos c, if_neg (fun z => hd (r0.mp z))]
  · rw [if_neg (fun z => c (q0.mp z)), if_neg c, if_neg (fun z => hd (r0.mp z))]
    by_cases e : d = 6
    · rw [if_pos (r6.mpr e), if_pos e]
    · rw [if_neg (fun z => e (r6.mp z)), if_neg e]
      by_cases g : (tkD y L p).1 = 2
      · rw [if_pos (q2.mpr g), if_pos g]
      · rw [if_neg (fun z => g (q2.mp z)), if_neg g]
theorem goOn_t {n : Nat} : fX3_goOn (nI n) S = some (0, st_si S 52 (nI n)) := rfl
theorem SIM_end (P : PC S0 S y L β 6 ln p x) (M : PM T0 T y L β ln p) : BJ S0 T0 (CR x S) (fX5_readEnd T) ∨ ∃ S' T' e, CR x S = CR (x + 1) S' ∧ fX5_readEnd T = some (1, T') ∧ PC S0 S' y L β 0 (ln + 1) e (x + 1) ∧ PM T0 T' y L β ln e ∧ p < e := by
  obtain ⟨S1, Q, _, hCR⟩ := C_it P
  have td := take_d Q (by decide) (by decide)
  have K := M.2.2.2.2.2.1
  obtain ⟨t1, t2, t3, t4, t5, t6, t7⟩ := tk_b (y := y) Q.2.1
  have t5 := (tk_b (y := y) Q.2.1).2.2.2.2.1
  have q3 : (nI (tkD y L p).1 = (3 : Int32)) ↔ (tkD y L p).1 = 3 := nI_eq (b := 3) (by omega) (by decide)
  have h47 : st_i S1 47 = nI ln := Q.2.2.2.2.2.2.2.1
  have bad : (tkD y L p).1 ≠ 3 → BJ S0 T0 (CR x S) (fX5_readEnd T) := fun h3 => by
    refine PS_bad hCR Q (f := 1) ?_ (by decide) (by decide) ?_
    · rw [td]
      by_cases c : (tkD y L p).1 = 0
      · rw [if_pos c]
        rfl
      · rw [if_neg c, if_pos rfl]
        unfold fX3_takeSemicolon
        rw [Q.2.2.2.2.2.2.2.2.2.2.1.1, if_neg (fun z => h3 (q3.mp z))]
        rfl
    · obtain ⟨T', b1, b2, b3, b4⟩ := m_bad (w := 1) _ K M.2.2.2.2.2.2 (Or.inl rfl)
      unfold fX5_readEnd
      rw [if_neg (fun z => h3 (K.2.2.2.1.mp z)), show (1 : Int32) = nI 1 from rfl, ob_2t b1]
      exact ⟨T', rfl, b2, b3, b4⟩
  by_cases h3 : (tkD y L p).1 = 3
  · right
    obtain ⟨T', e1, M', _⟩ := PM_go M
    have ek : (tkD y L p).1 ≠ 0 := by omega
    have tk : fX3_take S1 = some (0, st_si (st_si S1 47 (nI (ln + 1))) 52 (nI 0)) := by
      rw [td, if_neg ek, if_pos rfl]
      unfold fX3_takeSemicolon
      rw [Q.2.2.2.2.2.2.2.2.2.2.1.1, if_pos (q3.mpr h3), h47, nI_1]
      rfl
    have fy : fY0 S1 (st_si (st_si S1 47 (nI (ln + 1))) 52 (nI 0)) := fr_tr (fr_si (by omega)) (fr_si (by omega))
    refine ⟨_, T', _, hCR _ _ tk, ?_, PS_ok Q ek (fY_0 fy) (cB_0 Q.2.2.2.2.2.1 fy) Q.2.2.2.2.2.2.1 (by rw [st_i_ne (by decide), st_i_eq]) (by have := Q.2.2.2.2.1; omega) st_i_eq, M', ?_⟩
    · unfold fX5_readEnd
      rw [if_pos (K.2.2.2.1.mpr h3), ob_1t e1]
    · have := t4 ek
      omega
  · exact Or.inl (bad h3)
end GRM
