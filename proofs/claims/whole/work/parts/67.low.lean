/-! Lowest terms on both sides. -/
theorem lN_iL (n : Nat) : lN n = iL (n : Int) := by
  show Int64.ofNat n = Int64.ofInt (n : Int)
  exact (Int64.ofInt_eq_ofNat).symm
theorem g_half {a b : Nat} (h : a % b ≠ 0) (hb : 0 < b) : 2 * (b % (a % b)) < b := by
  have h1 := Nat.mod_lt a hb
  generalize a % b = r at *
  by_cases c : 2 * r ≤ b
  · have := Nat.mod_lt b (show 0 < r by omega)
    omega
  · rw [Nat.mod_eq_sub_mod (by omega), Nat.mod_eq_of_lt (by omega)]
    omega
theorem lg_eq0 {a : Nat} (ha : a < 2 ^ 63) : (lg_cmp (lN a) 0 = 0) ↔ a = 0 := by
  unfold lg_cmp
  have e : lN a = 0 ↔ a = 0 := by
    have := pk_lEQ (a := a) (b := 0) ha (by decide)
    exact this
  have l : (0 : Int64) < lN a ↔ 0 < a := pk_lLT (a := 0) (b := a) (by decide) ha
  by_cases c : a = 0
  · rw [if_neg (show ¬ lN a > 0 from fun z => by have := l.mp z; omega), if_pos (e.mpr c)]
    exact ⟨fun _ => c, fun _ => rfl⟩
  · rw [if_pos (show lN a > 0 from l.mpr (by omega))]
    exact ⟨fun z => absurd z (by decide), fun z => absurd z c⟩
theorem lg_le0 {a : Nat} (ha : a < 2 ^ 63) : (lg_cmp (lN a) 0 ≤ 0) ↔ a = 0 := by
  unfold lg_cmp
  have e : lN a = 0 ↔ a = 0 := pk_lEQ (a := a) (b := 0) ha (by decide)
  have l : (0 : Int64) < lN a ↔ 0 < a := pk_lLT (a := 0) (b := a) (by decide) ha
  by_cases c : a = 0
  · rw [if_neg (show ¬ lN a > 0 from fun z => by have := l.mp z; omega), if_pos (e.mpr c)]
    exact ⟨fun _ => c, fun _ => by decide⟩
  · rw [if_pos (show lN a > 0 from l.mpr (by omega))]
    exact ⟨fun z => absurd z (by decide), fun z => absurd z c⟩
theorem lN_ne {a : Nat} (ha : a < 2 ^ 63) (h : a ≠ 0) : ¬ lN a = 0 := fun z => h ((pk_lEQ (a := a) (b := 0) ha (by decide)).mp z)
theorem c_gcd {S : RSt} : ∀ (k a b x f : Nat), b < 2 ^ k → k ≤ 40 → x + (2 * k + 1) ≤ 100 → 2 * k + 1 < f → a < 2 ^ 63 → fX4_greatestCommon_L9 f (lN a) (lN b) (nI x) S = some (lN (Nat.gcd a b), S)
  | k, a, b, x, 0, _, _, _, h, _ => absurd h (Nat.not_lt_zero _)
  | k, a, b, x, f + 1, hb, hk, hx, hf, ha => by
    have p40 : 2 ^ k ≤ 2 ^ 40 := Nat.pow_le_pow_right (by decide) hk
    have b63 : b < 2 ^ 63 := by
      have : (2 : Nat) ^ 40 ≤ 2 ^ 63 := by decide
      omega
    rw [fX4_greatestCommon_L9, if_neg (show ¬ (100 : Int32) ≤ nI x from nI_ge (b := 100) (by omega) (by decide))]
    by_cases c : b = 0
    · rw [if_pos ((lg_eq0 b63).mpr c), c, Nat.gcd_zero_right]
    · rw [if_neg (fun z => c ((lg_eq0 b63).mp z)), ob_nz_t (lN_ne b63 c), pk_lRem ha (by omega) b63, nI_1]
      obtain ⟨k, rfl⟩ : ∃ k', k = k' + 1 := ⟨k - 1, by
        by_cases z : k = 0
        · subst z
          omega
        · omega⟩
      have r1 := Nat.mod_lt a (show 0 < b by omega)
      have eg : Nat.gcd a b = Nat.gcd b (a % b) := by rw [Nat.gcd_comm a b, Nat.gcd_rec, Nat.gcd_comm]
      by_cases d : a % b = 0
      · obtain ⟨f, rfl⟩ : ∃ f', f = f' + 1 := ⟨f - 1, by omega⟩
        rw [fX4_greatestCommon_L9, if_neg (show ¬ (100 : Int32) ≤ nI (x + 1) from nI_ge (b := 100) (by omega) (by decide)), d, if_pos ((lg_eq0 (by decide)).mpr rfl), eg, d, Nat.gcd_zero_right]
      · obtain ⟨f, rfl⟩ : ∃ f', f = f' + 1 := ⟨f - 1, by omega⟩
        have h2 := g_half d (by omega)
        have eg2 : Nat.gcd b (a % b) = Nat.gcd (a % b) (b % (a % b)) := by rw [Nat.gcd_comm b, Nat.gcd_rec, Nat.gcd_comm]
        rw [fX4_greatestCommon_L9, if_neg (show ¬ (100 : Int32) ≤ nI (x + 1) from nI_ge (b := 100) (by omega) (by decide)), if_neg (fun z => d ((lg_eq0 (by omega)).mp z)), ob_nz_t (lN_ne (by omega) d), pk_lRem b63 (by omega) (by omega), nI_1, eg, eg2]
        exact c_gcd k (a % b) (b % (a % b)) (x + 2) f (by rw [Nat.pow_succ] at hb; omega) (by omega) (by omega) (by omega) (by omega)
theorem m_gcd {S : RSt} : ∀ (k a b f : Nat), b < 2 ^ k → k ≤ 40 → 2 * k + 1 < f → a < 2 ^ 63 → fX5_common_L17 f (lN a) (lN b) S = some (lN (Nat.gcd a b), S)
  | k, a, b, 0, _, _, h, _ => absurd h (Nat.not_lt_zero _)
  | k, a, b, f + 1, hb, hk, hf, ha => by
    have p40 : 2 ^ k ≤ 2 ^ 40 := Nat.pow_le_pow_right (by decide) hk
    have b63 : b < 2 ^ 63 := by
      have : (2 : Nat) ^ 40 ≤ 2 ^ 63 := by decide
      omega
    rw [fX5_common_L17]
    by_cases c : b = 0
    · rw [if_pos ((lg_le0 b63).mpr c), c, Nat.gcd_zero_right]
    · rw [if_neg (fun z => c ((lg_le0 b63).mp z)), ob_nz_t (lN_ne b63 c), pk_lRem ha (by omega) b63]
      obtain ⟨k, rfl⟩ : ∃ k', k = k' + 1 := ⟨k - 1, by
        by_cases z : k = 0
        · subst z
          omega
        · omega⟩
      have r1 := Nat.mod_lt a (show 0 < b by omega)
      have eg : Nat.gcd a b = Nat.gcd b (a % b) := by rw [Nat.gcd_comm a b, Nat.gcd_rec, Nat.gcd_comm]
      by_cases d : a % b = 0
      · obtain ⟨f, rfl⟩ : ∃ f', f = f' + 1 := ⟨f - 1, by omega⟩
        rw [fX5_common_L17, d, if_pos ((lg_le0 (by decide)).mpr rfl), eg, d, Nat.gcd_zero_right]
      · obtain ⟨f, rfl⟩ : ∃ f', f = f' + 1 := ⟨f - 1, by omega⟩
        have h2 := g_half d (by omega)
        have eg2 : Nat.gcd b (a % b) = Nat.gcd (a % b) (b % (a % b)) := by rw [Nat.gcd_comm b, Nat.gcd_rec, Nat.gcd_comm]
        rw [fX5_common_L17, if_neg (fun z => d ((lg_le0 (by omega)).mp z)), ob_nz_t (lN_ne (by omega) d), pk_lRem b63 (by omega) (by omega), eg, eg2]
        exact m_gcd k (a % b) (b % (a % b)) f (by rw [Nat.pow_succ] at hb; omega) (by omega) (by omega) (by omega)
def ls (v p : Int) (u : Int32) : Int64 := (if u = 0 then iL v else iL p) / lN (Nat.gcd v.natAbs p.toNat)
def lb (v : Int) : Prop := -9223372036854775808 < v ∧ v < 9223372036854775808
def pb (p : Int) : Prop := 0 < p ∧ p ≤ 268435456
theorem iL_lt {x y : Int} (h1 : -9223372036854775808 ≤ x) (h2 : x < 9223372036854775808) (h3 : -9223372036854775808 ≤ y) (h4 : y < 9223372036854775808) : iL x < iL y ↔ x < y := by
  rw [Int64.lt_iff_toInt_lt, iL_t h1 h2, iL_t h3 h4]
theorem c_abs {v : Int} (h : lb v) : (if 0 < iL v then iL v else - iL v) = lN v.natAbs := by
  rw [lN_iL]
  have e : (0 < iL v) ↔ 0 < v := iL_lt (x := 0) (by omega) (by omega) (by unfold lb at h; omega) h.2
  by_cases c : 0 < v
  · rw [if_pos (e.mpr c)]
    congr 1
    omega
  · rw [if_neg (fun z => c (e.mp z)), iL_neg]
    congr 1
    omega
theorem lg_ge {v : Int} (h : lb v) : (0 ≤ lg_cmp (iL v) 0) ↔ 0 ≤ v := by
  unfold lg_cmp
  have e1 : (0 < iL v) ↔ 0 < v := iL_lt (x := 0) (by omega) (by omega) (by unfold lb at h; omega) h.2
  have e2 : (iL v = 0) ↔ v = 0 := iL_eq (y := 0) (by unfold lb at h; omega) h.2 (by omega) (by omega)
  by_cases c : 0 < v
  · rw [if_pos (e1.mpr c)]
    exact ⟨fun _ => by omega, fun _ => by decide⟩
  · rw [if_neg (show ¬ iL v > 0 from fun z => c (e1.mp z))]
    by_cases d : v = 0
    · rw [if_pos (e2.mpr d)]
      exact ⟨fun _ => by omega, fun _ => by decide⟩
    · rw [if_neg (fun z => d (e2.mp z))]
      exact ⟨fun z => absurd z (by decide), fun z => by omega⟩
theorem m_abs {α : Type} {v : Int} (h : lb v) {T : Int64 → RSt → Option α} {S : RSt} : (if 0 ≤ lg_cmp (iL v) 0 then T (iL v) S else T (- iL v) S) = T (lN v.natAbs) S := by
  rw [lN_iL]
  by_cases c : 0 ≤ v
  · rw [if_pos ((lg_ge h).mpr c)]
    congr 2
    omega
  · rw [if_neg (fun z => c ((lg_ge h).mp z)), iL_neg]
    congr 2
    omega
theorem pb_n {p : Int} (hp : pb p) : iL p = lN p.toNat ∧ p.toNat < 2 ^ 29 ∧ 0 < p.toNat := by
  unfold pb at hp
  refine ⟨?_, by omega, by omega⟩
  rw [lN_iL]
  congr 1
  omega
theorem gcd_b {v p : Int} (hp : pb p) : 0 < Nat.gcd v.natAbs p.toNat ∧ Nat.gcd v.natAbs p.toNat < 2 ^ 63 := by
  obtain ⟨_, h1, h2⟩ := pb_n hp
  have := Nat.gcd_le_right v.natAbs h2
  exact ⟨Nat.gcd_pos_of_pos_right _ h2, by omega⟩
theorem c_low {S : RSt} {v p : Int} (hv : lb v) (hp : pb p) (u : Int32) : fX4_lowestTerms (iL v) (iL p) u S = some (ls v p u, S) := by
  obtain ⟨e, h1, h2⟩ := pb_n hp
  obtain ⟨g1, g2⟩ := gcd_b (v := v) hp
  have hn : v.natAbs < 2 ^ 63 := by
    unfold lb at hv
    omega
  have eg : fX4_greatestCommon (lN v.natAbs) (lN p.toNat) S = some (lN (Nat.gcd v.natAbs p.toNat), S) := by
    unfold fX4_greatestCommon
    have q : fX4_greatestCommon_L9 1000 (lN v.natAbs) (lN p.toNat) (0 : Int32) S = some (lN (Nat.gcd v.natAbs p.toNat), S) := c_gcd 29 v.natAbs p.toNat 0 1000 h1 (by decide) (by decide) (by decide) hn
    rw [ob_2t q]
  have hg : 0 < lg_cmp (lN (Nat.gcd v.natAbs p.toNat)) 0 := by
    have := pk_lLT (a := 0) (b := Nat.gcd v.natAbs p.toNat) (by decide) g2
    unfold lg_cmp
    rw [if_pos (show lN (Nat.gcd v.natAbs p.toNat) > 0 from this.mpr g1)]
    decide
  unfold fX4_lowestTerms
  rw [c_abs hv, e, ob_2t eg, if_pos hg]
  unfold ls
  by_cases c : u = 0
  · rw [if_pos c, if_pos c, ob_nz_t (lN_ne g2 (by omega))]
  · rw [if_neg c, if_neg c, ob_nz_t (lN_ne g2 (by omega)), e]
theorem m_low {S : RSt} {v p : Int} (hv : lb v) (hp : pb p) (ej : st_j S 1 = iL p) (u : Int32) : fX5_lowest (iL v) u S = some (ls v p u, S) := by
  obtain ⟨e, h1, h2⟩ := pb_n hp
  obtain ⟨g1, g2⟩ := gcd_b (v := v) hp
  have hn : v.natAbs < 2 ^ 63 := by
    unfold lb at hv
    omega
  have eg : fX5_common (iL v) (iL p) S = some (lN (Nat.gcd v.natAbs p.toNat), S) := by
    unfold fX5_common
    refine Eq.trans (m_abs hv (T := fun (s : Int64) (T : RSt) => ob_2 (fX5_common_L17 1000 s (iL p) T) fun o T' => some (o, T')) (S := S)) ?_
    rw [e]
    show ob_2 (fX5_common_L17 1000 (lN v.natAbs) (lN p.toNat) S) _ = _
    rw [ob_2t (m_gcd 29 v.natAbs p.toNat 1000 h1 (by decide) (by decide) hn)]
  unfold fX5_lowest ls
  by_cases c : u = 0
  · rw [ob_jp c]
    show ob_2 (fX5_common (iL v) (st_j S 1) S) _ = _
    rw [ej, ob_2t eg, ob_nz_t (lN_ne g2 (by omega)), if_pos c]
  · rw [ob_jn c]
    show ob_2 (fX5_common (iL v) (st_j S 1) S) _ = _
    rw [ej, ob_2t eg, ob_nz_t (lN_ne g2 (by omega)), if_neg c]
theorem bt_pb {β : BK} (hb : bk_ok β) (hk : pk β ≤ 18) : pb (bt β) := dJ_p hb hk (Nat.le_refl _)
theorem tp_lb {β : BK} (hb : bk_ok β) (hk : pk β ≤ 18) {x : Nat} (hx : x < bk_n β) : lb (tp β x) := by
  have := tp_b hb hk hx
  unfold lb
  omega
/-- what a pair is off -/
def of (β : BK) (i : Nat) : Int := dR β i * bt β - (tp β (pF β i).2.2 - tp β (pF β i).2.1)
theorem of_lb {β : BK} (hb : bk_ok β) (hk : pk β ≤ 18) {i : Nat} (hi : i < pk β) : lb (of β i) := by
  obtain ⟨_, v1, v2⟩ := pF_v hi
  have t1 := tp_b hb hk v2
  have t2 := tp_b hb hk (x := (pF β i).2.1) (by omega)
  have r := dR_b hb i
  have p := dJ_p hb hk (Nat.le_refl (um β))
  have p : 0 < bt β ∧ bt β ≤ 268435456 := p
  have m := i_mul_b (a := dR β i) (b := bt β) (x := 1000) (y := 268435456) (by omega) r.2 (by omega) p.2
  unfold lb of
  omega
