/-! Tokens of a text: one thing on both sides. -/
abbrev dg (b : Nat) : Prop := 48 ≤ b ∧ b ≤ 57
abbrev le' (b : Nat) : Prop := 97 ≤ b ∧ b ≤ 122
abbrev bl (b : Nat) : Prop := b = 32 ∨ b = 10
abbrev ru (b : Nat) : Prop := le' b ∨ dg b
theorem sb_c : ∀ b, b < 256 → ∀ c, c < 128 → (sb_b b = nI c ↔ b = c) := by decide +kernel
theorem sb_lt48 : ∀ b, b < 256 → (sb_b b < 48 ↔ (b < 48 ∨ 128 ≤ b)) := by decide +kernel
theorem sb_gt57 : ∀ b, b < 256 → (57 < sb_b b ↔ (57 < b ∧ b < 128)) := by decide +kernel
theorem sb_lt97 : ∀ b, b < 256 → (sb_b b < 97 ↔ (b < 97 ∨ 128 ≤ b)) := by decide +kernel
theorem sb_le122 : ∀ b, b < 256 → (sb_b b ≤ 122 ↔ (b ≤ 122 ∨ 128 ≤ b)) := by decide +kernel
def sk (y : Nat → Nat) : Nat → Nat → Nat
  | 0, p => p
  | d + 1, p => if bl (y p) then sk y d (p + 1) else p
def rn (y : Nat → Nat) : Nat → Nat → Nat
  | 0, p => p
  | d + 1, p => if ru (y p) then rn y d (p + 1) else p
def dc (y : Nat → Nat) (p : Nat) : Nat → Nat
  | 0 => 0
  | k + 1 => dc y p k + if dg (y (p + k)) then 1 else 0
def vN (y : Nat → Nat) (p : Nat) : Nat → Nat
  | 0 => 0
  | k + 1 => vN y p k * 10 + (y (p + k) - 48)
def wN (y : Nat → Nat) (p : Nat) : Nat → Nat
  | 0 => 0
  | k + 1 => 27 * wN y p k + (y (p + k) - 96)
def wk (h : Nat) : Nat := if h = 194797783 then 4 else if h = 12328316 then 5 else if h = 168755 then 6 else if h = 375035 then 7 else 1
def tkR (y : Nat → Nat) (L b : Nat) : Nat × Nat × Nat × Nat :=
  if dc y b (rn y (L - b) b - b) = 0 then (wk (wN y b (min (rn y (L - b) b - b) 7)), b, rn y (L - b) b, 0)
  else if dc y b (rn y (L - b) b - b) = rn y (L - b) b - b ∧ rn y (L - b) b - b ≤ 3 then (2, b, rn y (L - b) b, vN y b (rn y (L - b) b - b)) else (1, b, rn y (L - b) b, 0)
def tkB (y : Nat → Nat) (L b : Nat) : Nat × Nat × Nat × Nat :=
  if L ≤ b ∨ 500 ≤ b then (0, min L 500, b, 0)
  else if ru (y b) then tkR y L b
  else if y b = 59 then (3, b, b + 1, 0) else (1, b, b + 1, 0)
def tkD (y : Nat → Nat) (L p : Nat) : Nat × Nat × Nat × Nat := tkB y L (sk y (L - p) p)
theorem sk_b (y : Nat → Nat) : ∀ d p, p ≤ sk y d p ∧ sk y d p ≤ p + d
  | 0, p => ⟨Nat.le_refl _, Nat.le_refl _⟩
  | d + 1, p => by
    have := sk_b y d (p + 1)
    rw [sk]
    split <;> omega
theorem rn_b (y : Nat → Nat) : ∀ d p, p ≤ rn y d p ∧ rn y d p ≤ p + d
  | 0, p => ⟨Nat.le_refl _, Nat.le_refl _⟩
  | d + 1, p => by
    have := rn_b y d (p + 1)
    rw [rn]
    split <;> omega
theorem rn_r (y : Nat → Nat) : ∀ d p i, p ≤ i → i < rn y d p → ru (y i)
  | 0, p, i, h1, h2 => by
    rw [rn] at h2
    omega
  | d + 1, p, i, h1, h2 => by
    rw [rn] at h2
    by_cases c : ru (y p)
    · rw [if_pos c] at h2
      by_cases e : i = p
      · rw [e]
        exact c
      · exact rn_r y d (p + 1) i (by omega) h2
    · rw [if_neg c] at h2
      omega
theorem dc_le (y : Nat → Nat) (p : Nat) : ∀ k, dc y p k ≤ k
  | 0 => Nat.le_refl 0
  | k + 1 => by
    have := dc_le y p k
    rw [dc]
    split <;> omega
theorem dc_0 (y : Nat → Nat) (p : Nat) : ∀ k, dc y p k = 0 → ∀ i, i < k → ¬ dg (y (p + i))
  | 0, _, i, h => absurd h (Nat.not_lt_zero i)
  | k + 1, h, i, hi => by
    rw [dc] at h
    by_cases c : dg (y (p + k))
    · rw [if_pos c] at h
      omega
    · rw [if_neg c] at h
      by_cases e : i = k
      · rw [e]
        exact c
      · exact dc_0 y p k (by omega) i (by omega)
theorem dc_0' (y : Nat → Nat) (p : Nat) : ∀ k, (∀ i, i < k → ¬ dg (y (p + i))) → dc y p k = 0
  | 0, _ => rfl
  | k + 1, h => by rw [dc, dc_0' y p k (fun i hi => h i (by omega)), if_neg (h k (by omega))]
theorem dc_k (y : Nat → Nat) (p : Nat) : ∀ k, dc y p k = k → ∀ i, i < k → dg (y (p + i))
  | 0, _, i, h => absurd h (Nat.not_lt_zero i)
  | k + 1, h, i, hi => by
    have := dc_le y p k
    rw [dc] at h
    by_cases c : dg (y (p + k))
    · rw [if_pos c] at h
      by_cases e : i = k
      · rw [e]
        exact c
      · exact dc_k y p k (by omega) i (by omega)
    · rw [if_neg c] at h
      omega
theorem dc_k' (y : Nat → Nat) (p : Nat) : ∀ k, (∀ i, i < k → dg (y (p + i))) → dc y p k = k
  | 0, _ => rfl
  | k + 1, h => by rw [dc, dc_k' y p k (fun i hi => h i (by omega)), if_pos (h k (by omega))]
theorem vN_b (y : Nat → Nat) (p : Nat) : ∀ k, (∀ i, i < k → dg (y (p + i))) → vN y p k < 10 ^ k
  | 0, _ => by rw [vN]; decide
  | k + 1, h => by
    have ih := vN_b y p k (fun i hi => h i (by omega))
    have hk := h k (by omega)
    unfold dg at hk
    rw [vN, Nat.pow_succ]
    omega
theorem vN_999 (y : Nat → Nat) (p k : Nat) (hk : k ≤ 3) (h : ∀ i, i < k → dg (y (p + i))) : vN y p k ≤ 999 := by
  have := vN_b y p k h
  have : (10 : Nat) ^ k ≤ 10 ^ 3 := Nat.pow_le_pow_right (by decide) hk
  omega
/-- one letter off the end of a word's number -/
theorem wN_d {y : Nat → Nat} {p k h : Nat} (hl : ∀ i, i < k → le' (y (p + i))) (e : wN y p k = h) : (k = 0 ∧ h = 0) ∨ ∃ j, k = j + 1 ∧ y (p + j) = 96 + h % 27 ∧ wN y p j = h / 27 ∧ h ≠ 0 := by
  cases k with
  | zero => exact Or.inl ⟨rfl, e.symm⟩
  | succ j =>
    right
    have hj := hl j (by omega)
    unfold le' at hj
    rw [wN] at e
    exact ⟨j, rfl, by omega, by omega, by omega⟩
def wl : Nat → List Nat
  | 0 => [109, 111, 110, 116, 104, 115]
  | 1 => [119, 101, 105, 103, 104]
  | 2 => [104, 111, 109, 101]
  | _ => [115, 97, 108, 101]
def wh : Nat → Nat
  | 0 => 194797783
  | 1 => 12328316
  | 2 => 168755
  | _ => 375035
/-- a run of letters spells a word just if its number is the word's -/
theorem sp_ok {y : Nat → Nat} {p k w : Nat} (hw : w < 4) (hl : ∀ i, i < k → le' (y (p + i))) : (k = (wl w).length ∧ ∀ i, i < k → y (p + i) = (wl w).getD i 0) ↔ wN y p (min k 7) = wh w := by
  have hl7 : ∀ i, i < min k 7 → le' (y (p + i)) := fun i hi => hl i (by omega)
  obtain rfl | rfl | rfl | rfl : w = 0 ∨ w = 1 ∨ w = 2 ∨ w = 3 := by omega
  · constructor
    · intro ⟨h1, h2⟩
      have h1 : k = 6 := h1
      subst h1
      have a0 := h2 0 (by decide)
      have a1 := h2 1 (by decide)
      have a2 := h2 2 (by decide)
      have a3 := h2 3 (by decide)
      have a4 := h2 4 (by decide)
      have a5 := h2 5 (by decide)
      show wN y p 6 = 194797783
      simp only [wN, a0, a1, a2, a3, a4, a5]
      decide
    · intro e
      have e : wN y p (min k 7) = 194797783 := e
      obtain ⟨_, z⟩ | ⟨k1, q1, v1, e1, _⟩ := wN_d hl7 e
      · omega
      obtain ⟨_, z⟩ | ⟨k2, q2, v2, e2, _⟩ := wN_d (fun i hi => hl7 i (by omega)) e1
      · omega
      obtain ⟨_, z⟩ | ⟨k3, q3, v3, e3, _⟩ := wN_d (fun i hi => hl7 i (by omega)) e2
      · omega
      obtain ⟨_, z⟩ | ⟨k4, q4, v4, e4, _⟩ := wN_d (fun i hi => hl7 i (by omega)) e3
      · omega
      obtain ⟨_, z⟩ | ⟨k5, q5, v5, e5, _⟩ := wN_d (fun i hi => hl7 i (by omega)) e4
      · omega
      obtain ⟨_, z⟩ | ⟨k6, q6, v6, e6, _⟩ := wN_d (fun i hi => hl7 i (by omega)) e5
      · omega
      obtain ⟨q7, _⟩ | ⟨k7, q7, v7, e7, z⟩ := wN_d (fun i hi => hl7 i (by omega)) e6
      · have hk : k = 6 := by omega
        refine ⟨hk, fun i hi => ?_⟩
        obtain rfl | rfl | rfl | rfl | rfl | rfl : i = 0 ∨ i = 1 ∨ i = 2 ∨ i = 3 ∨ i = 4 ∨ i = 5 := by omega
        · rw [show p + 0 = p + k6 by omega, v6]; rfl
        · rw [show p + 1 = p + k5 by omega, v5]; rfl
        · rw [show p + 2 = p + k4 by omega, v4]; rfl
        · rw [show p + 3 = p + k3 by omega, v3]; rfl
        · rw [show p + 4 = p + k2 by omega, v2]; rfl
        · rw [show p + 5 = p + k1 by omega, v1]; rfl
      · omega
  · constructor
    · intro ⟨h1, h2⟩
      have h1 : k = 5 := h1
      subst h1
      have a0 := h2 0 (by decide)
      have a1 := h2 1 (by decide)
      have a2 := h2 2 (by decide)
      have a3 := h2 3 (by decide)
      have a4 := h2 4 (by decide)
      show wN y p 5 = 12328316
      simp only [wN, a0, a1, a2, a3, a4]
      decide
    · intro e
      have e : wN y p (min k 7) = 12328316 := e
      obtain ⟨_, z⟩ | ⟨k1, q1, v1, e1, _⟩ := wN_d hl7 e
      · omega
      obtain ⟨_, z⟩ | ⟨k2, q2, v2, e2, _⟩ := wN_d (fun i hi => hl7 i (by omega)) e1
      · omega
      obtain ⟨_, z⟩ | ⟨k3, q3, v3, e3, _⟩ := wN_d (fun i hi => hl7 i (by omega)) e2
      · omega
      obtain ⟨_, z⟩ | ⟨k4, q4, v4, e4, _⟩ := wN_d (fun i hi => hl7 i (by omega)) e3
      · omega
      obtain ⟨_, z⟩ | ⟨k5, q5, v5, e5, _⟩ := wN_d (fun i hi => hl7 i (by omega)) e4
      · omega
      obtain ⟨q6, _⟩ | ⟨k6, q6, v6, e6, z⟩ := wN_d (fun i hi => hl7 i (by omega)) e5
      · have hk : k = 5 := by omega
        refine ⟨hk, fun i hi => ?_⟩
        obtain rfl | rfl | rfl | rfl | rfl : i = 0 ∨ i = 1 ∨ i = 2 ∨ i = 3 ∨ i = 4 := by omega
        · rw [show p + 0 = p + k5 by omega, v5]; rfl
        · rw [show p + 1 = p + k4 by omega, v4]; rfl
        · rw [show p + 2 = p + k3 by omega, v3]; rfl
        · rw [show p + 3 = p + k2 by omega, v2]; rfl
        · rw [show p + 4 = p + k1 by omega, v1]; rfl
      · omega
  · constructor
    · intro ⟨h1, h2⟩
      have h1 : k = 4 := h1
      subst h1
      have a0 := h2 0 (by decide)
      have a1 := h2 1 (by decide)
      have a2 := h2 2 (by decide)
      have a3 := h2 3 (by decide)
      show wN y p 4 = 168755
      simp only [wN, a0, a1, a2, a3]
      decide
    · intro e
      have e : wN y p (min k 7) = 168755 := e
      obtain ⟨_, z⟩ | ⟨k1, q1, v1, e1, _⟩ := wN_d hl7 e
      · omega
      obtain ⟨_, z⟩ | ⟨k2, q2, v2, e2, _⟩ := wN_d (fun i hi => hl7 i (by omega)) e1
      · omega
      obtain ⟨_, z⟩ | ⟨k3, q3, v3, e3, _⟩ := wN_d (fun i hi => hl7 i (by omega)) e2
      · omega
      obtain ⟨_, z⟩ | ⟨k4, q4, v4, e4, _⟩ := wN_d (fun i hi => hl7 i (by omega)) e3
      · omega
      obtain ⟨q5, _⟩ | ⟨k5, q5, v5, e5, z⟩ := wN_d (fun i hi => hl7 i (by omega)) e4
      · have hk : k = 4 := by omega
        refine ⟨hk, fun i hi => ?_⟩
        obtain rfl | rfl | rfl | rfl : i = 0 ∨ i = 1 ∨ i = 2 ∨ i = 3 := by omega
        · rw [show p + 0 = p + k4 by omega, v4]; rfl
        · rw [show p + 1 = p + k3 by omega, v3]; rfl
        · rw [show p + 2 = p + k2 by omega, v2]; rfl
        · rw [show p + 3 = p + k1 by omega, v1]; rfl
      · omega
  · constructor
    · intro ⟨h1, h2⟩
      have h1 : k = 4 := h1
      subst h1
      have a0 := h2 0 (by decide)
      have a1 := h2 1 (by decide)
      have a2 := h2 2 (by decide)
      have a3 := h2 3 (by decide)
      show wN y p 4 = 375035
      simp only [wN, a0, a1, a2, a3]
      decide
    · intro e
      have e : wN y p (min k 7) = 375035 := e
      obtain ⟨_, z⟩ | ⟨k1, q1, v1, e1, _⟩ := wN_d hl7 e
      · omega
      obtain ⟨_, z⟩ | ⟨k2, q2, v2, e2, _⟩ := wN_d (fun i hi => hl7 i (by omega)) e1
      · omega
      obtain ⟨_, z⟩ | ⟨k3, q3, v3, e3, _⟩ := wN_d (fun i hi => hl7 i (by omega)) e2
      · omega
      obtain ⟨_, z⟩ | ⟨k4, q4, v4, e4, _⟩ := wN_d (fun i hi => hl7 i (by omega)) e3
      · omega
      obtain ⟨q5, _⟩ | ⟨k5, q5, v5, e5, z⟩ := wN_d (fun i hi => hl7 i (by omega)) e4
      · have hk : k = 4 := by omega
        refine ⟨hk, fun i hi => ?_⟩
        obtain rfl | rfl | rfl | rfl : i = 0 ∨ i = 1 ∨ i = 2 ∨ i = 3 := by omega
        · rw [show p + 0 = p + k4 by omega, v4]; rfl
        · rw [show p + 1 = p + k3 by omega, v3]; rfl
        · rw [show p + 2 = p + k2 by omega, v2]; rfl
        · rw [show p + 3 = p + k1 by omega, v1]; rfl
      · omega
theorem js_len_wl : ∀ w, w < 4 → js_len.getD w 0 = (wl w).length ∧ js_n w = nI (wl w).length ∧ ∀ k, k < (wl w).length → js_c w k = nI ((wl w).getD k 0) := by decide +kernel
theorem wl_lt : ∀ w, w < 4 → ∀ k, k < 7 → (wl w).getD k 0 < 128 := by decide +kernel
/-! The landed side. -/
section TKC
variable {S : RSt} {y : Nat → Nat} {L : Nat}
def tp1 (S : RSt) (y : Nat → Nat) (L : Nat) : Prop := L ≤ 540 ∧ (∀ k, y k < 256) ∧ st_i S 45 = nI L ∧ ∀ k, k < L → st_a S 112 k = sb_b (y k)
theorem tp1_fr {I J A G : Nat → Prop} {S' : RSt} (h : tp1 S y L) (f : fr I J A G S S') (h1 : ¬ I 45) (h2 : ¬ A 112) : tp1 S' y L := ⟨h.1, h.2.1, by rw [f.1 _ h1]; exact h.2.2.1, fun k hk => by rw [f.2.2.1 _ h2]; exact h.2.2.2 k hk⟩
theorem c_isDig {b : Nat} (hb : b < 256) : fX3_isDigit (sb_b b) S = some (if dg b then 1 else 0, S) := by
  unfold fX3_isDigit
  by_cases c : dg b
  · unfold dg at c
    rw [if_neg (fun z => by have := (sb_lt48 b hb).mp z; omega), if_neg (fun z => by have := (sb_gt57 b hb).mp z; omega), if_pos c]
  · rw [if_neg c]
    unfold dg at c
    by_cases d : sb_b b < 48
    · rw [if_pos d]
    · have h1 : ¬ (b < 48 ∨ 128 ≤ b) := fun z => d ((sb_lt48 b hb).mpr z)
      rw [if_neg d, if_pos ((sb_gt57 b hb).mpr (by omega))]
theorem c_isRun {b : Nat} (hb : b < 256) : fX3_isOfRun (sb_b b) S = some (if ru b then 1 else 0, S) := by
  unfold fX3_isOfRun
  have tail : (ob_2 (fX3_isDigit (sb_b b) S) fun r_4 S_5 => (if r_4 = 0 then (some ((0 : Int32), S_5)) else (some ((1 : Int32), S_5)))) = some (if dg b then 1 else 0, S) := by
    rw [ob_2t (c_isDig hb)]
    by_cases c : dg b
    · rw [if_pos c, if_neg ne0]
    · rw [if_neg c, if_pos rfl]
  by_cases c : sb_b b < 97
  · rw [ob_jp c]
    refine tail.trans ?_
    have := (sb_lt97 b hb).mp c
    by_cases d : dg b
    · rw [if_pos d, if_pos (Or.inr d)]
    · rw [if_neg d, if_neg (show ¬ ru b by unfold ru le'; unfold dg at d ⊢; omega)]
  · rw [ob_jn c]
    have h1 : ¬ (b < 97 ∨ 128 ≤ b) := fun z => c ((sb_lt97 b hb).mpr z)
    by_cases e : sb_b b ≤ 122
    · have h2 := (sb_le122 b hb).mp e
      rw [if_pos e, if_pos (show ru b by unfold ru le'; omega)]
    · have h2 : ¬ (b ≤ 122 ∨ 128 ≤ b) := fun z => e ((sb_le122 b hb).mpr z)
      rw [if_neg e]
      refine tail.trans ?_
      rw [if_neg (show ¬ dg b by unfold dg; omega), if_neg (show ¬ ru b by unfold ru le' dg; omega)]
theorem c_skip : ∀ (d p f : Nat) (S : RSt), tp1 S y L → st_i S 49 = nI p → p + d = L → d < f → ∃ S', fX3_skipBlanks_L0 f S = some S' ∧ st_i S' 49 = nI (sk y d p) ∧ fr (fun k => k = 49) no no no S S'
  | _, _, 0, _, _, _, _, h => absurd h (Nat.not_lt_zero _)
  | 0, p, f + 1, S, T, e, hp, _ => by
    have := T.1
    rw [fX3_skipBlanks_L0, T.2.2.1, e, if_pos (nI_le (by omega) (by omega))]
    exact ⟨S, rfl, e, fr_rf⟩
  | d + 1, p, f + 1, S, T, e, hp, hf => by
    have hL := T.1
    have hb := T.2.1 p
    have go : bl (y p) → ∃ S', fX3_skipBlanks_L0 f (st_si S 49 (nI p + 1)) = some S' ∧ st_i S' 49 = nI (sk y (d + 1) p) ∧ fr (fun k => k = 49) no no no S S' := fun c => by
      rw [nI_1, sk, if_pos c]
      have f1 : fr (fun k => k = 49) no no no S (st_si S 49 (nI (p + 1))) := fr_si rfl
      obtain ⟨S', h1, h2, h3⟩ := c_skip d (p + 1) f (st_si S 49 (nI (p + 1))) (tp1_fr T f1 (by decide) (fun z => z)) st_i_eq (by omega) (by omega)
      exact ⟨S', h1, h2, fr_tr f1 h3⟩
    have ip : vp_in (nI p) 540 := vp_in_nI (by omega) (by decide)
    rw [fX3_skipBlanks_L0, T.2.2.1, e, if_neg (nI_ge (by omega) (by omega)), ob_in_t ip, nI_clamp (by omega), T.2.2.2 p (by omega)]
    by_cases c : sb_b (y p) = 32
    · rw [ob_jp c]
      have := (sb_c (y p) hb 32 (by decide)).mp c
      show ∃ S', fX3_skipBlanks_L0 f (st_si S 49 (st_i S 49 + 1)) = some S' ∧ _
      rw [e]
      exact go (Or.inl this)
    · rw [ob_jn c, ob_in_t ip]
      by_cases c2 : sb_b (y p) = 10
      · rw [if_pos c2]
        have := (sb_c (y p) hb 10 (by decide)).mp c2
        show ∃ S', fX3_skipBlanks_L0 f (st_si S 49 (st_i S 49 + 1)) = some S' ∧ _
        rw [e]
        exact go (Or.inr this)
      · rw [if_neg c2, sk, if_neg (fun z => z.elim (fun z => c ((sb_c (y p) hb 32 (by decide)).mpr z)) (fun z => c2 ((sb_c (y p) hb 10 (by decide)).mpr z)))]
        exact ⟨S, rfl, e, fr_rf⟩
/-- a run: its end, its digits, its value as an int -/
def vI (y : Nat → Nat) (b : Nat) : Nat → Int32
  | 0 => 0
  | k + 1 => if dg (y (b + k)) then vI y b k * 10 + (sb_b (y (b + k)) - 48) else vI y b k
theorem vI_vN {b : Nat} : ∀ k, k ≤ 3 → (∀ i, i < k → dg (y (b + i))) → vI y b k = nI (vN y b k)
  | 0, _, _ => rfl
  | k + 1, hk, h => by
    have hd := h k (by omega)
    have ih := vI_vN k (by omega) (fun i hi => h i (by omega))
    rw [vI, if_pos hd, ih, vN]
    unfold dg at hd
    have e : sb_b (y (b + k)) = nI (y (b + k)) := (sb_c _ (by omega) _ (by omega)).mpr rfl
    have e2 := nI_add (y (b + k) - 48) 48
    rw [show y (b + k) - 48 + 48 = y (b + k) by omega] at e2
    rw [e, ← e2, show nI 48 = (48 : Int32) from rfl, Int32.add_sub_cancel, show (10 : Int32) = nI 10 from rfl, pk_mul, nI_add]
theorem c_runL {b : Nat} : ∀ (d p f : Nat) (S : RSt), tp1 S y L → st_i S 49 = nI p → st_i S 51 = vI y b (p - b) → b ≤ p → p + d = L → d < f → ∃ S', fX3_readRun_L7 f (nI (dc y b (p - b))) S = some (nI (dc y b (rn y d p - b)), S') ∧ st_i S' 49 = nI (rn y d p) ∧ st_i S' 51 = vI y b (rn y d p - b) ∧ fr (fun k => k = 49 ∨ k = 51) no no no S S'
  | _, _, 0, _, _, _, _, _, _, h => absurd h (Nat.not_lt_zero _)
  | 0, p, f + 1, S, T, e, e1, hb, hp, _ => by
    have := T.1
    rw [fX3_readRun_L7, T.2.2.1, e, if_pos (nI_le (by omega) (by omega)), rn]
    exact ⟨S, rfl, e, e1, fr_rf⟩
  | d + 1, p, f + 1, S, T, e, e1, hb, hp, hf => by
    have hL := T.1
    have h256 := T.2.1 p
    have ip : vp_in (nI p) 540 := vp_in_nI (by omega) (by decide)
    have sb : p + 1 - b = (p - b) + 1 := by omega
    have ep : b + (p - b) = p := by omega
    rw [fX3_readRun_L7, T.2.2.1, e, if_neg (nI_ge (by omega) (by omega)), ob_in_t ip, nI_clamp (by omega), T.2.2.2 p (by omega), ob_2t (c_isRun h256), rn]
    by_cases c : ru (y p)
    · rw [if_pos c, if_neg ne0, if_pos c, e, ob_in_t ip, nI_clamp (by omega), T.2.2.2 p (by omega), ob_2t (c_isDig h256)]
      have fin : ∀ (S0 : RSt) (x : Int32), fr (fun k => k = 49 ∨ k = 51) no no no S S0 → st_i S0 49 = nI p → x = nI (dc y b (p + 1 - b)) → st_i S0 51 = vI y b (p + 1 - b) → ∃ S', fX3_readRun_L7 f x (st_si S0 49 (st_i S0 49 + 1)) = some (nI (dc y b (rn y d (p + 1) - b)), S') ∧ st_i S' 49 = nI (rn y d (p + 1)) ∧ st_i S' 51 = vI y b (rn y d (p + 1) - b) ∧ fr (fun k => k = 49 ∨ k = 51) no no no S S' := fun S0 x f0 e0 hx hv => by
        rw [e0, nI_1, hx]
        have f1 : fr (fun k => k = 49 ∨ k = 51) no no no S0 (st_si S0 49 (nI (p + 1))) := fr_si (Or.inl rfl)
        obtain ⟨S', h1, h2, h3, h4⟩ := c_runL d (p + 1) f (st_si S0 49 (nI (p + 1))) (tp1_fr (tp1_fr T f0 (by decide) (fun z => z)) f1 (by decide) (fun z => z)) st_i_eq (by rw [st_i_ne (by decide)]; exact hv) (by omega) (by omega) (by omega)
        exact ⟨S', h1, h2, h3, fr_tr f0 (fr_tr f1 h4)⟩
      by_cases g : dg (y p)
      · rw [if_pos g, ob_jn ne0, e, ob_in_t ip, nI_clamp (by omega), T.2.2.2 p (by omega)]
        refine fin _ _ (fr_si (Or.inr rfl)) (by rw [st_i_ne (by decide)]; exact e) ?_ ?_
        · rw [sb, dc, ep, if_pos g, nI_1]
        · rw [st_i_eq, sb, vI, ep, if_pos g, e1]
      · rw [if_neg g, ob_jp rfl]
        refine fin S _ fr_rf e ?_ ?_
        · rw [sb, dc, ep, if_neg g]
          rfl
        · rw [sb, vI, ep, if_neg g, e1]
    · rw [if_neg c, if_pos rfl, if_neg c]
      exact ⟨S, rfl, e, e1, fr_rf⟩
theorem c_spells {b e w : Nat} (T : tp1 S y L) (hw : w < 4) (hbe : b ≤ e) (he : e ≤ L) (e48 : st_i S 48 = nI b) (e49 : st_i S 49 = nI e) (hl : ∀ i, i < e - b → le' (y (b + i))) : fX3_spells w S = some (if wN y b (min (e - b) 7) = wh w then 1 else 0, S) := by
  have hL := T.1
  obtain ⟨l1, l2, l3⟩ := js_len_wl w hw
  have l4 : (wl w).length ≤ 6 := by
    obtain rfl | rfl | rfl | rfl : w = 0 ∨ w = 1 ∨ w = 2 ∨ w = 3 := by omega
    all_goals decide
  have sp := sp_ok (w := w) hw hl
  have sub : ∀ q, b ≤ q → q ≤ e → nI q - nI b = nI (q - b) := fun q h1 h2 => by
    have e := nI_add (q - b) b
    rw [show q - b + b = q by omega] at e
    rw [← e, Int32.add_sub_cancel]
  unfold fX3_spells
  rw [l2, e49, e48, sub e hbe (Nat.le_refl _)]
  by_cases c : (wl w).length = e - b
  · rw [if_pos (by rw [c])]
    obtain ⟨Z, ez, h⟩ := lp_up (fun f i s => fX3_spells_L23 w f (nI (b + i)) s) (fun i s => s = S ∧ ∀ j, j < i → y (b + j) = (wl w).getD j 0) (e - b) (fun r => (r = .inr S ∧ ∀ j, j < e - b → y (b + j) = (wl w).getD j 0) ∨ (r = .inl S ∧ ¬ ∀ j, j < e - b → y (b + j) = (wl w).getD j 0))
      (fun f s hs => ⟨.inr s, by
        obtain ⟨rfl, hs⟩ := hs
        show fX3_spells_L23 w (f + 1) (nI (b + (e - b))) s = some (.inr s)
        rw [fX3_spells_L23, e49, if_pos (nI_le (by omega) (by omega))], Or.inl ⟨by rw [hs.1], hs.2⟩⟩)
      (fun f i s hi hs => by
        obtain ⟨rfl, hs⟩ := hs
        show (∃ r, fX3_spells_L23 w (f + 1) (nI (b + i)) s = some r ∧ _) ∨ ∃ s', _ ∧ fX3_spells_L23 w (f + 1) (nI (b + i)) s = fX3_spells_L23 w f (nI (b + (i + 1))) s'
        rw [fX3_spells_L23, e49, if_neg (nI_ge (by omega) (by omega)), ob_in_t (vp_in_nI (show b + i < 540 by omega) (by decide)), e48, sub (b + i) (by omega) (by omega), show b + i - b = i by omega, l1, ob_in_t (vp_in_nI (show i < (wl w).length by omega) (by omega)), nI_clamp (by omega), nI_clamp (by omega), T.2.2.2 _ (by omega), l3 i (by omega), nI_1]
        have q := sb_c (y (b + i)) (T.2.1 _) ((wl w).getD i 0) (wl_lt w hw i (by omega))
        by_cases g : y (b + i) = (wl w).getD i 0
        · refine Or.inr ⟨s, ⟨rfl, fun j hj => ?_⟩, by rw [if_pos (q.mpr g)]; rfl⟩
          by_cases ej : j = i
          · rw [ej]
            exact g
          · exact hs j (by omega)
        · exact Or.inl ⟨.inl s, by rw [if_neg (fun z => g (q.mp z))], Or.inr ⟨rfl, fun z => g (z i hi)⟩⟩)
      (e - b) 0 1000 S (by omega) (by omega) ⟨rfl, fun j hj => absurd hj (Nat.not_lt_zero j)⟩
    have ez : fX3_spells_L23 w 1000 (nI b) S = some Z := ez
    rw [ob_1t ez]
    rcases h with ⟨rfl, h⟩ | ⟨rfl, h⟩
    · rw [if_pos (sp.mp ⟨c.symm, h⟩)]
      rfl
    · rw [if_neg (fun z => h (sp.mpr z).2)]
      rfl
  · rw [if_neg (fun z => c ((nI_eq (by omega) (by omega)).mp z)), if_neg (fun z => c (sp.mpr z).1.symm)]
theorem c_findWord {b e : Nat} (T : tp1 S y L) (hbe : b ≤ e) (he : e ≤ L) (e48 : st_i S 48 = nI b) (e49 : st_i S 49 = nI e) (hl : ∀ i, i < e - b → le' (y (b + i))) : fX3_findWord S = some (nI (wk (wN y b (min (e - b) 7))), S) := by
  have s := fun w hw => c_spells (w := w) T hw hbe he e48 e49 hl
  generalize wN y b (min (e - b) 7) = h at *
  unfold fX3_findWord wk
  rw [ob_2t (s 0 (by decide))]
  show (if (if h = 194797783 then (1 : Int32) else 0) = 0 then _ else _) = _
  by_cases c0 : h = 194797783
  · rw [if_pos c0, if_neg ne0, if_pos c0]
    rfl
  · rw [if_neg c0, if_pos rfl, if_neg c0, ob_2t (s 1 (by decide))]
    show (if (if h = 12328316 then (1 : Int32) else 0) = 0 then _ else _) = _
    by_cases c1 : h = 12328316
    · rw [if_pos c1, if_neg ne0, if_pos c1]
      rfl
    · rw [if_neg c1, if_pos rfl, if_neg c1, ob_2t (s 2 (by decide))]
      show (if (if h = 168755 then (1 : Int32) else 0) = 0 then _ else _) = _
      by_cases c2 : h = 168755
      · rw [if_pos c2, if_neg ne0, if_pos c2]
        rfl
      · rw [if_neg c2, if_pos rfl, if_neg c2, ob_2t (s 3 (by decide))]
        show (if (if h = 375035 then (1 : Int32) else 0) = 0 then _ else _) = _
        by_cases c3 : h = 375035
        · rw [if_pos c3, if_neg ne0, if_pos c3]
          rfl
        · rw [if_neg c3, if_pos rfl, if_neg c3]
          rfl
/-- what the landed side holds of a token -/
def ctk (S : RSt) (t : Nat × Nat × Nat × Nat) : Prop := st_i S 50 = nI t.1 ∧ st_i S 48 = nI t.2.1 ∧ st_i S 49 = nI t.2.2.1 ∧ (t.1 = 2 → st_i S 51 = nI t.2.2.2)
def fK : RSt → RSt → Prop := fr (fun k => 48 ≤ k ∧ k < 52) no no no
theorem c_readRun {b : Nat} (T : tp1 S y L) (hb : b < L) (e48 : st_i S 48 = nI b) (e49 : st_i S 49 = nI b) : ∃ S', fX3_readRun S = some S' ∧ ctk S' (tkR y L b) ∧ fK S S' := by
  have hL := T.1
  have f0 : fr (fun k => k = 49 ∨ k = 51) no no no S (st_si S 51 0) := fr_si (Or.inr rfl)
  obtain ⟨S1, h1, h2, h3, h4⟩ := c_runL (b := b) (L - b) b 1000 (st_si S 51 0) (tp1_fr T f0 (by decide) (fun z => z)) (by rw [st_i_ne (by decide)]; exact e49) (by rw [st_i_eq, Nat.sub_self]; rfl) (Nat.le_refl _) (by omega) (by omega)
  rw [Nat.sub_self] at h1
  have h1 : fX3_readRun_L7 1000 0 (st_si S 51 0) = some (nI (dc y b (rn y (L - b) b - b)), S1) := h1
  have F1 := fr_tr f0 h4
  have T1 := tp1_fr T F1 (by decide) (fun z => z)
  have e48' : st_i S1 48 = nI b := by rw [F1.1 _ (by decide)]; exact e48
  have rb := rn_b y (L - b) b
  have rr := rn_r y (L - b) b
  have K1 : fK S S1 := fr_mo F1 (fun _ z => by omega) (fun _ z => z) (fun _ z => z) (fun _ z => z)
  have dle := dc_le y b (rn y (L - b) b - b)
  unfold fX3_readRun tkR
  rw [ob_2t h1]
  generalize rn y (L - b) b = e at *
  by_cases c : dc y b (e - b) = 0
  · have hl : ∀ i, i < e - b → le' (y (b + i)) := fun i hi => by
      have h1 := dc_0 y b _ c i hi
      have h2 := rr (b + i) (by omega) (by omega)
      exact h2.resolve_right h1
    rw [c, if_pos (show nI 0 = 0 from rfl), ob_2t (c_findWord T1 rb.1 (by omega) e48' h2 hl), if_pos rfl]
    refine ⟨_, rfl, ⟨st_i_eq, by rw [st_i_ne (by decide)]; exact e48', by rw [st_i_ne (by decide)]; exact h2, fun z => ?_⟩, fr_tr K1 (fr_si (by omega))⟩
    exfalso
    have z : wk (wN y b (min (e - b) 7)) = 2 := z
    unfold wk at z
    split at z
    · omega
    · split at z
      · omega
      · split at z
        · omega
        · split at z <;> omega
  · have sub : nI e - nI b = nI (e - b) := by
      have q := nI_add (e - b) b
      rw [show e - b + b = e by omega] at q
      rw [← q, Int32.add_sub_cancel]
    rw [if_neg (nI_ne0 (by omega) (by omega)), if_neg c, h2, e48', sub]
    by_cases d : dc y b (e - b) = e - b
    · rw [if_pos (show nI (dc y b (e - b)) = nI (e - b) by rw [d])]
      by_cases g : e - b ≤ 3
      · rw [if_neg (show ¬ (3 : Int32) < nI (dc y b (e - b)) from nI_nlt (a := 3) (by omega) (by decide)), if_pos ⟨d, g⟩]
        refine ⟨_, rfl, ⟨st_i_eq, by rw [st_i_ne (by decide)]; exact e48', by rw [st_i_ne (by decide)]; exact h2, fun _ => ?_⟩, fr_tr K1 (fr_si (by omega))⟩
        rw [st_i_ne (by decide), h3]
        exact vI_vN _ g (dc_k y b _ d)
      · rw [if_pos (show (3 : Int32) < nI (dc y b (e - b)) from nI_lt (a := 3) (by omega) (by omega)), if_neg (fun z => g z.2)]
        exact ⟨_, rfl, ⟨st_i_eq, by rw [st_i_ne (by decide)]; exact e48', by rw [st_i_ne (by decide)]; exact h2, fun z => absurd (show (1 : Nat) = 2 from z) (by decide)⟩, fr_tr K1 (fr_si (by omega))⟩
    · rw [if_neg (fun z => d ((nI_eq (by omega) (by omega)).mp z)), if_neg (fun z => d z.1)]
      exact ⟨_, rfl, ⟨st_i_eq, by rw [st_i_ne (by decide)]; exact e48', by rw [st_i_ne (by decide)]; exact h2, fun z => absurd (show (1 : Nat) = 2 from z) (by decide)⟩, fr_tr K1 (fr_si (by omega))⟩
theorem c_step {p : Nat} (T : tp1 S y L) (hp : p ≤ L) (e49 : st_i S 49 = nI p) : ∃ S', fX3_step S = some S' ∧ ctk S' (tkD y L p) ∧ fK S S' := by
  have hL := T.1
  obtain ⟨S1, h1, h2, h3⟩ := c_skip (L - p) p 1000 S T e49 (by omega) (by omega)
  have sb := sk_b y (L - p) p
  have eS : fX3_skipBlanks S = some S1 := by
    unfold fX3_skipBlanks
    rw [ob_1t h1]
  have f2 : fr (fun k => k = 48) no no no S1 (st_si S1 48 (st_i S1 49)) := fr_si rfl
  have K2 : fK S (st_si S1 48 (st_i S1 49)) := fr_tr (fr_mo h3 (fun _ z => by omega) (fun _ z => z) (fun _ z => z) (fun _ z => z)) (fr_mo f2 (fun _ z => by omega) (fun _ z => z) (fun _ z => z) (fun _ z => z))
  have T2 := tp1_fr T K2 (by omega) (fun z => z)
  have e48 : st_i (st_si S1 48 (st_i S1 49)) 48 = nI (sk y (L - p) p) := by rw [st_i_eq, h2]
  have e49' : st_i (st_si S1 48 (st_i S1 49)) 49 = nI (sk y (L - p) p) := by rw [st_i_ne (by decide), h2]
  unfold fX3_step tkD tkB
  rw [ob_1t eS]
  generalize st_si S1 48 (st_i S1 49) = S2 at *
  generalize sk y (L - p) p = b at *
  rw [T2.2.2.1, e49']
  have fin : ∃ S', some (st_si (st_si S2 50 0) 48 (if (500 : Int32) < st_i (st_si S2 50 0) 45 then 500 else st_i (st_si S2 50 0) 45)) = some S' ∧ ctk S' (0, min L 500, b, 0) ∧ fK S S' := by
    refine ⟨_, rfl, ⟨by rw [st_i_ne (by decide), st_i_eq]; rfl, ?_, by rw [st_i_ne (by decide), st_i_ne (by decide)]; exact e49', fun z => absurd (show (0 : Nat) = 2 from z) (by decide)⟩, fr_tr K2 (fr_tr (fr_si (by omega)) (fr_si (by omega)))⟩
    rw [st_i_eq, st_i_ne (by decide), T2.2.2.1]
    by_cases c : 500 < L
    · rw [if_pos (show (500 : Int32) < nI L from nI_lt (a := 500) c (by omega)), Nat.min_eq_right (by omega)]
      rfl
    · rw [if_neg (show ¬ (500 : Int32) < nI L from nI_nlt (a := 500) (by omega) (by decide)), Nat.min_eq_left (by omega)]
  by_cases c1 : L ≤ b
  · rw [ob_jp (nI_le c1 (by omega)), if_pos (Or.inl c1)]
    exact fin
  · rw [ob_jn (nI_ge (by omega) (by omega))]
    by_cases c2 : 500 ≤ b
    · rw [if_neg (show ¬ nI b < (500 : Int32) from nI_nlt (b := 500) c2 (by omega)), if_pos (Or.inr c2)]
      exact fin
    · have ib : vp_in (nI b) 540 := vp_in_nI (by omega) (by decide)
      rw [if_pos (show nI b < (500 : Int32) from nI_lt (b := 500) (by omega) (by decide)), if_neg (show ¬ (L ≤ b ∨ 500 ≤ b) by omega), ob_in_t ib, nI_clamp (by omega), T2.2.2.2 b (by omega), ob_2t (c_isRun (T2.2.1 b))]
      by_cases g : ru (y b)
      · rw [if_pos g, if_neg ne0, if_pos g]
        obtain ⟨S', k1, k2, k3⟩ := c_readRun T2 (by omega) e48 e49'
        rw [ob_1t k1]
        exact ⟨S', rfl, k2, fr_tr K2 k3⟩
      · rw [if_neg g, if_pos rfl, if_neg g, e49', ob_in_t ib, nI_clamp (by omega), T2.2.2.2 b (by omega)]
        by_cases g2 : y b = 59
        · rw [ob_jp (show sb_b (y b) = 59 from (sb_c (y b) (T2.2.1 b) 59 (by decide)).mpr g2), if_pos g2]
          refine ⟨_, rfl, ⟨by rw [st_i_ne (by decide), st_i_eq]; rfl, by rw [st_i_ne (by decide), st_i_ne (by decide)]; exact e48, by rw [st_i_eq, st_i_ne (by decide), e49', nI_1], fun z => absurd (show (3 : Nat) = 2 from z) (by decide)⟩, fr_tr K2 (fr_tr (fr_si (by omega)) (fr_si (by omega)))⟩
        · rw [ob_jn (show ¬ sb_b (y b) = 59 from fun z => g2 ((sb_c (y b) (T2.2.1 b) 59 (by decide)).mp z)), if_neg g2]
          refine ⟨_, rfl, ⟨by rw [st_i_ne (by decide), st_i_eq]; rfl, by rw [st_i_ne (by decide), st_i_ne (by decide)]; exact e48, by rw [st_i_eq, st_i_ne (by decide), e49', nI_1], fun z => absurd (show (1 : Nat) = 2 from z) (by decide)⟩, fr_tr K2 (fr_tr (fr_si (by omega)) (fr_si (by omega)))⟩
end TKC
