/-! Parts: what both sides lay, and that it is one thing. -/
def PT (k : Nat) (F : PF) (n : Nat) (π : Nat → Nat) : Prop := (∀ i, i < k → π (F i).2.1 = π (F i).2.2) ∧ (∀ m, m < n → π m ≤ m) ∧ ∀ y : Nat → Int, (∀ i, i < k → y (F i).2.1 = y (F i).2.2) → ∀ m, m < n → y (π m) = y m
theorem PT_le {k n : Nat} {F : PF} {π π' : Nat → Nat} (h : PT k F n π) (h' : PT k F n π') {m : Nat} (hm : m < n) : π' m ≤ π m := by
  have e := h.2.2 (fun x => (π' x : Int)) (fun i hi => congrArg Int.ofNat (h'.1 i hi)) m hm
  have e : (π' (π m) : Int) = (π' m : Int) := e
  have h1 := h.2.1 m hm
  have h2 := h'.2.1 (π m) (by omega)
  omega
theorem PT_u {k n : Nat} {F : PF} {π π' : Nat → Nat} (h : PT k F n π) (h' : PT k F n π') {m : Nat} (hm : m < n) : π' m = π m := Nat.le_antisymm (PT_le h h' hm) (PT_le h' h hm)
theorem PT_n {k n n' : Nat} {F : PF} {π : Nat → Nat} (h : PT k F n π) (hn : n' ≤ n) : PT k F n' π := ⟨h.1, fun m hm => h.2.1 m (by omega), fun y hy m hm => h.2.2 y hy m (by omega)⟩
theorem PT_i {k n : Nat} {F : PF} {π : Nat → Nat} (h : PT k F n π) {m : Nat} (hm : m < n) : π (π m) = π m := by
  have e := h.2.2 (fun x => (π x : Int)) (fun i hi => congrArg Int.ofNat (h.1 i hi)) m hm
  exact Int.ofNat.inj e
def ptf (F : PF) : Nat → Nat → Nat
  | 0 => fun m => m
  | i + 1 => fun m => if ptf F i m = max (ptf F i (F i).2.1) (ptf F i (F i).2.2) then min (ptf F i (F i).2.1) (ptf F i (F i).2.2) else ptf F i m
def pt (β : BK) : Nat → Nat := ptf (pF β) (pk β)
theorem ptf_ok {F : PF} {n : Nat} : ∀ k, (∀ i, i < k → (F i).2.1 < n ∧ (F i).2.2 < n) → PT k F n (ptf F k)
  | 0, _ => ⟨fun i hi => absurd hi (Nat.not_lt_zero i), fun m _ => Nat.le_refl m, fun y _ m _ => rfl⟩
  | k + 1, hF => by
    obtain ⟨h1, h2, h3⟩ := ptf_ok k (fun i hi => hF i (by omega))
    obtain ⟨f8, t8⟩ := hF k (by omega)
    refine ⟨fun i hi => ?_, fun m hm => ?_, fun y hy m hm => ?_⟩
    · rw [ptf]
      by_cases e : i = k
      · subst e
        show (if ptf F i (F i).2.1 = max (ptf F i (F i).2.1) (ptf F i (F i).2.2) then min (ptf F i (F i).2.1) (ptf F i (F i).2.2) else ptf F i (F i).2.1) = (if ptf F i (F i).2.2 = max (ptf F i (F i).2.1) (ptf F i (F i).2.2) then min (ptf F i (F i).2.1) (ptf F i (F i).2.2) else ptf F i (F i).2.2)
        generalize ptf F i (F i).2.1 = a
        generalize ptf F i (F i).2.2 = b
        by_cases c : a = max a b
        · by_cases d : b = max a b
          · rw [if_pos c, if_pos d]
          · rw [if_pos c, if_neg d]
            omega
        · by_cases d : b = max a b
          · rw [if_neg c, if_pos d]
            omega
          · omega
      · show (if ptf F k (F i).2.1 = _ then _ else ptf F k (F i).2.1) = (if ptf F k (F i).2.2 = _ then _ else ptf F k (F i).2.2)
        rw [h1 i (by omega)]
    · rw [ptf]
      show (if ptf F k m = max (ptf F k (F k).2.1) (ptf F k (F k).2.2) then min (ptf F k (F k).2.1) (ptf F k (F k).2.2) else ptf F k m) ≤ m
      have := h2 m hm
      split <;> omega
    · rw [ptf]
      show y (if ptf F k m = max (ptf F k (F k).2.1) (ptf F k (F k).2.2) then min (ptf F k (F k).2.1) (ptf F k (F k).2.2) else ptf F k m) = y m
      have hy' : ∀ i, i < k → y (F i).2.1 = y (F i).2.2 := fun i hi => hy i (by omega)
      have e0 := h3 y hy' m hm
      have e1 := h3 y hy' _ f8
      have e2 := h3 y hy' _ t8
      have e3 := hy k (by omega)
      by_cases c : ptf F k m = max (ptf F k (F k).2.1) (ptf F k (F k).2.2)
      · rw [if_pos c, ← e0, c]
        rcases Nat.le_total (ptf F k (F k).2.1) (ptf F k (F k).2.2) with q | q
        · rw [Nat.max_eq_right q, Nat.min_eq_left q, e1, e2, e3]
        · rw [Nat.max_eq_left q, Nat.min_eq_right q, e1, e2, e3]
      · rw [if_neg c]
        exact e0
theorem pF_8 {β : BK} {n : Nat} (hn : bk_n β ≤ n) : ∀ i, i < pk β → (pF β i).2.1 < n ∧ (pF β i).2.2 < n := fun i hi => by
  have v := pF_v hi
  have h1 := v.2.1
  have h2 := v.2.2
  omega
theorem pt_ok {β : BK} {n : Nat} (hn : bk_n β ≤ n) : PT (pk β) (pF β) n (pt β) := ptf_ok (pk β) (pF_8 hn)
section PTC
variable {S : RSt} {j : Nat} {β : BK}
def fQ (j : Nat) : RSt → RSt → Prop := fr no no (fun a => a = 26 + j) no
theorem c_rename {n : Nat} (hn : n ≤ 8) (e39 : st_i S (39 + 2 * j) = nI n) {π : Nat → Nat} (hπ : ∀ m, m < n → π m < 8) (h : ∀ m, m < n → st_a S (26 + j) m = nI (π m)) {a b : Nat} (ha : a < 8) : ∃ S', fX1_renamePart j (nI a) (nI b) S = some S' ∧ (∀ m, m < n → st_a S' (26 + j) m = nI (if π m = a then b else π m)) ∧ fQ j S S' := by
  obtain ⟨r, e, h1, h2⟩ := lp_up (fun n i s => fX1_renamePart_L2 j n (nI a) (nI b) (nI i) s) (fun i s => (∀ m, m < n → st_a s (26 + j) m = nI (if m < i ∧ π m = a then b else π m)) ∧ fQ j S s) n (fun r => (∀ m, m < n → st_a r (26 + j) m = nI (if π m = a then b else π m)) ∧ fQ j S r)
    (fun f s hs => ⟨s, by
      show fX1_renamePart_L2 j (f + 1) (nI a) (nI b) (nI n) s = some s
      rw [fX1_renamePart_L2, hs.2.1 _ (fun z => z), e39, if_pos (nI_le (Nat.le_refl _) (by omega))], fun m hm => by
      rw [hs.1 m hm]
      by_cases c : π m = a
      · rw [if_pos c, if_pos ⟨hm, c⟩]
      · rw [if_neg c, if_neg (fun z => c z.2)], hs.2⟩)
    (fun f i s hi hs => Or.inr (by
      show ∃ s', _ ∧ fX1_renamePart_L2 j (f + 1) (nI a) (nI b) (nI i) s = fX1_renamePart_L2 j f (nI a) (nI b) (nI (i + 1)) s'
      have hi8 := hπ i hi
      have hsi := hs.1 i hi
      rw [if_neg (fun z => Nat.lt_irrefl i z.1)] at hsi
      rw [fX1_renamePart_L2, hs.2.1 _ (fun z => z), e39, if_neg (nI_ge (b := n) hi (by omega)), ob_in_t (vp_in_nI (show i < 8 by omega) (by decide)), ob_in_t (vp_in_nI (show i < 8 by omega) (by decide)), nI_clamp (by omega), hsi, nI_1]
      by_cases c : π i = a
      · rw [if_pos (by rw [c])]
        refine ⟨_, ⟨fun m hm => ?_, fr_tr hs.2 (fr_sa rfl)⟩, rfl⟩
        by_cases e : m = i
        · subst e
          rw [sa_p rfl rfl, if_pos ⟨by omega, c⟩]
        · rw [sa_n (Or.inr e), hs.1 m hm]
          by_cases c2 : m < i ∧ π m = a
          · rw [if_pos c2, if_pos ⟨by omega, c2.2⟩]
          · rw [if_neg c2, if_neg (fun z => c2 ⟨by omega, z.2⟩)]
      · rw [if_neg (fun z => c ((nI_eq (by omega) (by omega)).mp z))]
        refine ⟨s, ⟨fun m hm => ?_, hs.2⟩, rfl⟩
        rw [hs.1 m hm]
        by_cases c2 : m < i ∧ π m = a
        · rw [if_pos c2, if_pos ⟨by omega, c2.2⟩]
        · rw [if_neg c2, if_neg (fun z => by
            by_cases e : m = i
            · subst e
              exact c z.2
            · exact c2 ⟨by omega, z.2⟩)]))
    n 0 1000 S (by omega) (by omega) ⟨fun m hm => by rw [if_neg (fun z => Nat.not_lt_zero _ z.1)]; exact h m hm, fr_rf⟩
  unfold fX1_renamePart
  have e : fX1_renamePart_L2 j 1000 (nI a) (nI b) (0 : Int32) S = some r := e
  rw [ob_1t e]
  exact ⟨r, rfl, h1, h2⟩
theorem c_joinParts {n k : Nat} {F : PF} (hn : n ≤ 8) (hk : k ≤ 42) (e39 : st_i S (39 + 2 * j) = nI n) (P : cP S j β k F) (hF : ∀ i, i < k → (F i).2.1 < n ∧ (F i).2.2 < n) : ∃ S', fX1_joinParts j S = some S' ∧ (∀ m, m < n → st_a S' (26 + j) m = nI (ptf F k m)) ∧ fQ j S S' := by
  obtain ⟨r, e, h1, h2⟩ := lp_up (fun f i s => fX1_joinParts_L2 j f (nI i) s) (fun i s => (∀ m, m < i → st_a s (26 + j) m = nI m) ∧ fQ j S s) n (fun r => (∀ m, m < n → st_a r (26 + j) m = nI m) ∧ fQ j S r)
    (fun f s hs => ⟨s, by
      show fX1_joinParts_L2 j (f + 1) (nI n) s = some s
      rw [fX1_joinParts_L2, hs.2.1 _ (fun z => z), e39, if_pos (nI_le (Nat.le_refl _) (by omega))], hs⟩)
    (fun f i s hi hs => Or.inr (by
      show ∃ s', _ ∧ fX1_joinParts_L2 j (f + 1) (nI i) s = fX1_joinParts_L2 j f (nI (i + 1)) s'
      rw [fX1_joinParts_L2, hs.2.1 _ (fun z => z), e39, if_neg (nI_ge (b := n) hi (by omega)), ob_in_t (vp_in_nI (show i < 8 by omega) (by decide)), nI_clamp (by omega), nI_1]
      refine ⟨_, ⟨fun m hm => ?_, fr_tr hs.2 (fr_sa rfl)⟩, rfl⟩
      by_cases e : m = i
      · subst e
        rw [sa_p rfl rfl]
      · rw [sa_n (Or.inr e), hs.1 m (by omega)]))
    n 0 1000 S (by omega) (by omega) ⟨fun m hm => absurd hm (Nat.not_lt_zero m), fr_rf⟩
  obtain ⟨c0, c1, c2, c3, c4⟩ := clA
  obtain ⟨i0, i1, i2, i3, i4⟩ := inA
  obtain ⟨r2, e2, g1, g2⟩ := lp_up (fun f i s => fX1_joinParts_L25 j f (nI i) s) (fun i s => (∀ m, m < n → st_a s (26 + j) m = nI (ptf F i m)) ∧ fQ j S s) k (fun r => (∀ m, m < n → st_a r (26 + j) m = nI (ptf F k m)) ∧ fQ j S r)
    (fun f s hs => ⟨s, by
      show fX1_joinParts_L25 j (f + 1) (nI k) s = some s
      rw [fX1_joinParts_L25, hs.2.1 _ (fun z => z), P.1, if_pos (nI_le (Nat.le_refl _) (by omega))], hs⟩)
    (fun f i s hi hs => Or.inr (by
      show ∃ s', _ ∧ fX1_joinParts_L25 j (f + 1) (nI i) s = fX1_joinParts_L25 j f (nI (i + 1)) s'
      obtain ⟨p1, p2⟩ := hF i hi
      have q := P.2 i hi
      have hpt := (ptf_ok (n := n) i (fun l hl => hF l (by omega))).2.1
      have b1 := hpt _ p1
      have b2 := hpt _ p2
      rw [fX1_joinParts_L25, hs.2.1 _ (fun z => z), P.1, if_neg (nI_ge (b := k) hi (by omega)), ob_in_t (vp_in_nI (show i < 42 by omega) (by decide)), ob_in_t i1, nI_clamp (show i < 2 ^ 31 by omega), c1, c2, hs.2.2.2.1 (28 + 42 * j + i) (by omega), q.2.1, q.2.2.1, ob_in_t (vp_in_nI (show (F i).2.1 < 8 by omega) (by decide)), ob_in_t (vp_in_nI (show i < 42 by omega) (by decide)), ob_in_t i2, ob_in_t (vp_in_nI (show (F i).2.2 < 8 by omega) (by decide)), nI_clamp (by omega), nI_clamp (by omega), hs.1 _ p1, hs.1 _ p2, nI_1]
      have hmx : (if nI (ptf F i (F i).2.1) < nI (ptf F i (F i).2.2) then nI (ptf F i (F i).2.2) else nI (ptf F i (F i).2.1)) = nI (max (ptf F i (F i).2.1) (ptf F i (F i).2.2)) := by
        by_cases c : ptf F i (F i).2.1 < ptf F i (F i).2.2
        · rw [if_pos (nI_lt c (by omega)), Nat.max_eq_right (by omega)]
        · rw [if_neg (nI_nlt (by omega) (by omega)), Nat.max_eq_left (by omega)]
      have hmn : (if nI (ptf F i (F i).2.2) < nI (ptf F i (F i).2.1) then nI (ptf F i (F i).2.2) else nI (ptf F i (F i).2.1)) = nI (min (ptf F i (F i).2.1) (ptf F i (F i).2.2)) := by
        by_cases c : ptf F i (F i).2.2 < ptf F i (F i).2.1
        · rw [if_pos (nI_lt c (by omega)), Nat.min_eq_right (by omega)]
        · rw [if_neg (nI_nlt (by omega) (by omega)), Nat.min_eq_left (by omega)]
      rw [hmx, hmn]
      obtain ⟨S', d1, d2, d3⟩ := c_rename (S := s) (j := j) (b := min (ptf F i (F i).2.1) (ptf F i (F i).2.2)) hn ((hs.2.1 _ (fun z => z)).trans e39) (π := ptf F i) (fun m hm => by have := hpt m hm; omega) hs.1 (a := max (ptf F i (F i).2.1) (ptf F i (F i).2.2)) (by omega)
      rw [ob_1t d1]
      exact ⟨S', ⟨d2, fr_tr hs.2 d3⟩, rfl⟩))
    k 0 1000 r (by omega) (by omega) ⟨h1, h2⟩
  unfold fX1_joinParts
  have e : fX1_joinParts_L2 j 1000 (0 : Int32) S = some r := e
  have e2 : fX1_joinParts_L25 j 1000 (0 : Int32) r = some r2 := e2
  rw [ob_1t e, ob_1t e2]
  exact ⟨r2, rfl, g1, g2⟩
end PTC
/-! The reference's parts: the least of two, until nothing changes. -/
def sN : Nat → (Nat → Nat) → Nat
  | 0, _ => 0
  | n + 1, f => sN n f + f n
theorem sN_congr {f g : Nat → Nat} : ∀ {n : Nat}, (∀ i, i < n → f i = g i) → sN n f = sN n g
  | 0, _ => rfl
  | n + 1, h => by rw [sN, sN, sN_congr (fun i hi => h i (by omega)), h n (by omega)]
theorem sN_up {f : Nat → Nat} {p x : Nat} : ∀ {n : Nat}, p < n → sN n (va_up f p x) + f p = sN n f + x
  | 0, h => absurd h (Nat.not_lt_zero p)
  | n + 1, h => by
    rw [sN, sN]
    by_cases e : p = n
    · subst e
      rw [va_up_self, sN_congr (g := f) (fun i hi => va_up_ne _ _ (by omega))]
      omega
    · have := sN_up (f := f) (p := p) (x := x) (n := n) (by omega)
      rw [va_up_ne _ _ (fun q => e q.symm)]
      omega
section PTM
variable {S : RSt} {β : BK}
def gQ : RSt → RSt → Prop := fr no no (fun a => a = 9) no
/-- below the month, and one with it for all that is one over pairs -/
def PH (k : Nat) (F : PF) (n : Nat) (π : Nat → Nat) : Prop := (∀ m, m < n → π m ≤ m) ∧ ∀ y : Nat → Int, (∀ i, i < k → y (F i).2.1 = y (F i).2.2) → ∀ m, m < n → y (π m) = y m
theorem m_partsP {k : Nat} {F : PF} (hk : k ≤ 48) (P : mP S β k F) (hF : ∀ i, i < k → (F i).2.1 < 8 ∧ (F i).2.2 < 8 ∧ (F i).2.1 ≠ (F i).2.2) {s0 : RSt} (f0 : gQ S s0) {π0 : Nat → Nat} (h0 : ∀ m, m < 8 → st_a s0 9 m = nI (π0 m)) (H0 : PH k F 8 π0) : ∃ x s π, fX5_laysParts_L31 1000 0 0 s0 = some (x, s) ∧ (∀ m, m < 8 → st_a s 9 m = nI (π m)) ∧ PH k F 8 π ∧ gQ S s ∧ ((x = 0 ∧ ∀ i, i < k → π (F i).2.1 = π (F i).2.2) ∨ (x = 1 ∧ sN 8 π < sN 8 π0)) := by
  obtain ⟨r, e, h⟩ := lp_up (fun f i (s : Int32 × RSt) => fX5_laysParts_L31 f s.1 (nI i) s.2) (fun i s => ∃ π, (∀ m, m < 8 → st_a s.2 9 m = nI (π m)) ∧ PH k F 8 π ∧ gQ S s.2 ∧ ((s.1 = 0 ∧ π = π0 ∧ ∀ l, l < i → π (F l).2.1 = π (F l).2.2) ∨ (s.1 = 1 ∧ sN 8 π < sN 8 π0))) k (fun r => ∃ π, (∀ m, m < 8 → st_a r.2 9 m = nI (π m)) ∧ PH k F 8 π ∧ gQ S r.2 ∧ ((r.1 = 0 ∧ ∀ l, l < k → π (F l).2.1 = π (F l).2.2) ∨ (r.1 = 1 ∧ sN 8 π < sN 8 π0)))
    (fun f s hs => ⟨s, by
      obtain ⟨π, h1, h2, h3, h4⟩ := hs
      show fX5_laysParts_L31 (f + 1) s.1 (nI k) s.2 = some s
      rw [fX5_laysParts_L31, h3.1 _ (fun z => z), P.1, if_pos (nI_le (Nat.le_refl _) (by omega))], by
      obtain ⟨π, h1, h2, h3, h4⟩ := hs
      exact ⟨π, h1, h2, h3, h4.imp (fun z => ⟨z.1, z.2.2⟩) id⟩⟩)
    (fun f i s hi hs => Or.inr (by
      obtain ⟨x, s⟩ := s
      obtain ⟨π, h1, h2, h3, h4⟩ := hs
      have h1 : ∀ m, m < 8 → st_a s 9 m = nI (π m) := h1
      have h3 : gQ S s := h3
      have h4 : (x = 0 ∧ π = π0 ∧ ∀ l, l < i → π (F l).2.1 = π (F l).2.2) ∨ (x = 1 ∧ sN 8 π < sN 8 π0) := h4
      show ∃ s' : Int32 × RSt, _ ∧ fX5_laysParts_L31 (f + 1) x (nI i) s = fX5_laysParts_L31 f s'.1 (nI (i + 1)) s'.2
      obtain ⟨p1, p2, p3⟩ := hF i hi
      have q := P.2 i hi
      have b1 := h2.1 _ p1
      have b2 := h2.1 _ p2
      have i48 : vp_in (nI i) 48 := vp_in_nI (by omega) (by decide)
      have f8 : vp_in (nI (F i).2.1) 8 := vp_in_nI p1 (by decide)
      have t8 : vp_in (nI (F i).2.2) 8 := vp_in_nI p2 (by decide)
      have q5 : st_a s 5 i = nI (F i).2.1 := by rw [h3.2.2.1 5 (by decide), q.2.1]
      have q6 : st_a s 6 i = nI (F i).2.2 := by rw [h3.2.2.1 6 (by decide), q.2.2.1]
      rw [fX5_laysParts_L31, h3.1 _ (fun z => z), P.1, if_neg (nI_ge (b := k) hi (by omega)), ob_in_t i48, nI_clamp (show i < 2 ^ 31 by omega), q5, q6, ob_in_t f8, ob_in_t i48, ob_in_t t8, nI_clamp (show (F i).2.1 < 2 ^ 31 by omega), nI_clamp (show (F i).2.2 < 2 ^ 31 by omega), h1 _ p1, h1 _ p2, nI_1]
      by_cases c : π (F i).2.1 = π (F i).2.2
      · rw [if_pos (by rw [c])]
        refine ⟨(x, s), ⟨π, h1, h2, h3, h4.imp (fun z => ⟨z.1, z.2.1, fun l hl => ?_⟩) id⟩, rfl⟩
        by_cases e : l = i
        · rw [e]
          exact c
        · exact z.2.2 l (by omega)
      · rw [if_neg (fun z => c ((nI_eq (by omega) (by omega)).mp z)), ob_in_t i48]
        -- both places take the least
        have key : ∀ mn : Nat, mn = min (π (F i).2.1) (π (F i).2.2) → ∃ s' : Int32 × RSt, (∃ π', (∀ m, m < 8 → st_a s'.2 9 m = nI (π' m)) ∧ PH k F 8 π' ∧ gQ S s'.2 ∧ ((s'.1 = 0 ∧ π' = π0 ∧ ∀ l, l < i + 1 → π' (F l).2.1 = π' (F l).2.2) ∨ (s'.1 = 1 ∧ sN 8 π' < sN 8 π0))) ∧ s' = ((1 : Int32), st_sa (st_sa s 9 (F i).2.1 (nI mn)) 9 (F i).2.2 (nI mn)) := by
          intro mn hmn
          refine ⟨_, ⟨va_up (va_up π (F i).2.1 mn) (F i).2.2 mn, fun m hm => ?_, ⟨fun m hm => ?_, fun y hy m hm => ?_⟩, (show gQ S (st_sa (st_sa s 9 (F i).2.1 (nI mn)) 9 (F i).2.2 (nI mn)) from fr_tr h3 (fr_tr (fr_sa rfl) (fr_sa rfl))), Or.inr ⟨rfl, ?_⟩⟩, rfl⟩
          · by_cases e2 : m = (F i).2.2
            · rw [sa_p rfl e2, e2, va_up_self]
            · rw [sa_n (Or.inr e2), va_up_ne _ _ e2]
              by_cases e1 : m = (F i).2.1
              · rw [sa_p rfl e1, e1, va_up_self]
              · rw [sa_n (Or.inr e1), va_up_ne _ _ e1, h1 m hm]
          · by_cases e2 : m = (F i).2.2
            · rw [e2, va_up_self]
              omega
            · rw [va_up_ne _ _ e2]
              by_cases e1 : m = (F i).2.1
              · rw [e1, va_up_self]
                omega
              · rw [va_up_ne _ _ e1]
                exact h2.1 m hm
          · have y1 := h2.2 y hy _ p1
            have y2 := h2.2 y hy _ p2
            have y3 := hy i hi
            have ym : y mn = y (F i).2.1 ∧ y mn = y (F i).2.2 := by
              rcases Nat.le_total (π (F i).2.1) (π (F i).2.2) with z | z
              · rw [hmn, Nat.min_eq_left z, y1, y3]
                exact ⟨rfl, rfl⟩
              · rw [hmn, Nat.min_eq_right z, y2, y3]
                exact ⟨rfl, rfl⟩
            by_cases e2 : m = (F i).2.2
            · rw [e2, va_up_self]
              exact ym.2
            · rw [va_up_ne _ _ e2]
              by_cases e1 : m = (F i).2.1
              · rw [e1, va_up_self]
                exact ym.1
              · rw [va_up_ne _ _ e1]
                exact h2.2 y hy m hm
          · have u1 := sN_up (f := π) (p := (F i).2.1) (x := mn) (n := 8) p1
            have u2 := sN_up (f := va_up π (F i).2.1 mn) (p := (F i).2.2) (x := mn) (n := 8) p2
            rw [va_up_ne _ _ (fun z => p3 z.symm)] at u2
            have : sN 8 π ≤ sN 8 π0 := by
              rcases h4 with ⟨_, z, _⟩ | ⟨_, z⟩
              · rw [z]
                exact Nat.le_refl _
              · omega
            omega
        show ∃ s' : Int32 × RSt, _ ∧ (if nI (π (F i).2.2) ≤ nI (π (F i).2.1) then _ else _) = _
        by_cases d : π (F i).2.2 ≤ π (F i).2.1
        · obtain ⟨s', k1, k2⟩ := key (π (F i).2.2) (by omega)
          refine ⟨s', k1, ?_⟩
          rw [if_pos (nI_le d (by omega)), k2]
          show ob_in (nI (F i).2.1) 8 (ob_in (nI i) 48 (if nI (π (F i).2.2) ≤ nI (π (F i).2.1) then _ else _)) = _
          rw [ob_in_t f8, ob_in_t i48, if_pos (nI_le d (by omega)), sa_n (Or.inl (by decide)), q6, ob_in_t t8, nI_clamp (by omega)]
        · obtain ⟨s', k1, k2⟩ := key (π (F i).2.1) (by omega)
          refine ⟨s', k1, ?_⟩
          rw [if_neg (nI_ge (by omega) (by omega)), k2]
          show ob_in (nI (F i).2.1) 8 (ob_in (nI i) 48 (if nI (π (F i).2.2) ≤ nI (π (F i).2.1) then _ else _)) = _
          rw [ob_in_t f8, ob_in_t i48, if_neg (nI_ge (by omega) (by omega)), sa_n (Or.inl (by decide)), q6, ob_in_t t8, nI_clamp (by omega)]))
    k 0 1000 ((0 : Int32), s0) (by omega) (by omega) ⟨π0, h0, H0, f0, Or.inl ⟨rfl, rfl, fun l hl => absurd hl (Nat.not_lt_zero l)⟩⟩
  obtain ⟨x, s⟩ := r
  obtain ⟨π, g1, g2, g3, g4⟩ := h
  exact ⟨x, s, π, e, g1, g2, g3, g4⟩
theorem m_partsW {k : Nat} {F : PF} (hk : k ≤ 48) (P : mP S β k F) (hF : ∀ i, i < k → (F i).2.1 < 8 ∧ (F i).2.2 < 8 ∧ (F i).2.1 ≠ (F i).2.2) : ∀ (f : Nat) (s : RSt) (π : Nat → Nat), sN 8 π + 2 ≤ f → gQ S s → (∀ m, m < 8 → st_a s 9 m = nI (π m)) → PH k F 8 π → ∃ s' π', fX5_laysParts_L23 f 1 s = some s' ∧ (∀ m, m < 8 → st_a s' 9 m = nI (π' m)) ∧ PT k F 8 π' ∧ gQ S s'
  | 0, _, _, h, _, _, _ => absurd h (by omega)
  | f + 1, s, π, h, f0, h0, H0 => by
    obtain ⟨x, s1, π1, e, g1, g2, g3, g4⟩ := m_partsP hk P hF f0 h0 H0
    rw [fX5_laysParts_L23, if_neg ne0, ob_2t e]
    rcases g4 with ⟨rfl, g4⟩ | ⟨rfl, g4⟩
    · obtain ⟨f, rfl⟩ : ∃ f', f = f' + 1 := ⟨f - 1, by omega⟩
      rw [fX5_laysParts_L23, if_pos rfl]
      exact ⟨s1, π1, rfl, g1, ⟨g4, g2⟩, g3⟩
    · exact m_partsW hk P hF f s1 π1 (by omega) g3 g1 g2
theorem m_laysParts {k : Nat} {F : PF} (hk : k ≤ 48) (P : mP S β k F) (hF : ∀ i, i < k → (F i).2.1 < 8 ∧ (F i).2.2 < 8 ∧ (F i).2.1 ≠ (F i).2.2) : ∃ S', fX5_laysParts S = some S' ∧ (∀ m, m < 8 → st_a S' 9 m = nI (ptf F k m)) ∧ gQ S S' := by
  obtain ⟨r, e, h1, h2⟩ := lp_up (fun f i s => fX5_laysParts_L2 f (nI i) s) (fun i s => (∀ m, m < i → st_a s 9 m = nI m) ∧ gQ S s) 8 (fun r => (∀ m, m < 8 → st_a r 9 m = nI m) ∧ gQ S r)
    (fun f s hs => ⟨s, by
      show fX5_laysParts_L2 (f + 1) (nI 8) s = some s
      rw [fX5_laysParts_L2, if_pos (show (8 : Int32) ≤ nI 8 by decide)], hs⟩)
    (fun f i s hi hs => Or.inr (by
      show ∃ s', _ ∧ fX5_laysParts_L2 (f + 1) (nI i) s = fX5_laysParts_L2 f (nI (i + 1)) s'
      rw [fX5_laysParts_L2, if_neg (show ¬ (8 : Int32) ≤ nI i from nI_ge (b := 8) hi (by decide)), ob_in_t (vp_in_nI hi (by decide)), nI_clamp (by omega), nI_1]
      refine ⟨_, ⟨fun m hm => ?_, fr_tr hs.2 (fr_sa rfl)⟩, rfl⟩
      by_cases e : m = i
      · subst e
        rw [sa_p rfl rfl]
      · rw [sa_n (Or.inr e), hs.1 m (by omega)]))
    8 0 1000 S (by omega) (by omega) ⟨fun m hm => absurd hm (Nat.not_lt_zero m), fr_rf⟩
  have e : fX5_laysParts_L2 1000 (0 : Int32) S = some r := e
  obtain ⟨s', π', g1, g2, g3, g4⟩ := m_partsW hk P hF 1000 r (fun m => m) (by decide) h2 h1 ⟨fun m _ => Nat.le_refl m, fun y _ m _ => rfl⟩
  unfold fX5_laysParts
  rw [ob_1t e, ob_1t g1]
  refine ⟨s', rfl, fun m hm => ?_, g4⟩
  rw [g2 m hm, PT_u g3 (ptf_ok (n := 8) k (fun i hi => ⟨(hF i hi).1, (hF i hi).2.1⟩)) hm]
end PTM
