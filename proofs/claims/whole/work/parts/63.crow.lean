/-! Longs as whole numbers; the landed rows. -/
def iL (x : Int) : Int64 := Int64.ofInt x
theorem iL_add (a b : Int) : iL a + iL b = iL (a + b) := (Int64.ofInt_add a b).symm
theorem iL_sub (a b : Int) : iL a - iL b = iL (a - b) := (Int64.ofInt_sub a b).symm
theorem iL_mul (a b : Int) : iL a * iL b = iL (a * b) := (Int64.ofInt_mul a b).symm
theorem iL_neg (a : Int) : - iL a = iL (-a) := (Int64.ofInt_neg a).symm
theorem iL_0 : (0 : Int64) = iL 0 := rfl
theorem iL_1 : (1 : Int64) = iL 1 := rfl
theorem iL_t {x : Int} (h1 : -9223372036854775808 ≤ x) (h2 : x < 9223372036854775808) : (iL x).toInt = x := Int64.toInt_ofInt_of_le h1 h2
theorem iL_eq {x y : Int} (h1 : -9223372036854775808 ≤ x) (h2 : x < 9223372036854775808) (h3 : -9223372036854775808 ≤ y) (h4 : y < 9223372036854775808) : iL x = iL y ↔ x = y := by
  constructor
  · intro e
    have := congrArg Int64.toInt e
    rw [iL_t h1 h2, iL_t h3 h4] at this
    exact this
  · intro e
    rw [e]
theorem iL_div {x y z : Int} (h1 : -9223372036854775808 < x) (h2 : x < 9223372036854775808) (h3 : 0 < y) (h4 : y < 9223372036854775808) (e : x = y * z) : iL x / iL y = iL z := by
  have q := Int64.ofInt_tdiv (a := x) (b := y) (by show (-9223372036854775808 : Int) ≤ x; omega) (by show x ≤ (9223372036854775807 : Int); omega) (by show (-9223372036854775808 : Int) ≤ y; omega) (by show y ≤ (9223372036854775807 : Int); omega)
  unfold iL
  rw [← q, e, Int.mul_tdiv_cancel_left _ (by omega)]
theorem i32_l (x : Int32) : x.toInt64 = iL x.toInt := Int64.toInt_inj.mp (by
  have h1 := Int32.le_toInt x
  have h2 := Int32.toInt_lt x
  rw [Int32.toInt_toInt64, iL_t (by omega) (by omega)])
theorem i32_mul {x y : Int32} {a b : Int} (hx : x.toInt = a) (hy : y.toInt = b) (h1 : -2147483648 ≤ a * b) (h2 : a * b < 2147483648) : (x * y).toInt = a * b := by
  rw [Int32.toInt_mul, hx, hy]
  exact Int.bmod_eq_of_le (by omega) (by omega)
theorem i32_neg {x : Int32} {a : Int} (hx : x.toInt = a) (h1 : -2147483648 ≤ -a) (h2 : -a < 2147483648) : (-x).toInt = -a := by
  rw [Int32.toInt_neg, hx]
  exact Int.bmod_eq_of_le (by omega) (by omega)
theorem lg_z {x : Int} (h1 : -9223372036854775808 ≤ x) (h2 : x < 9223372036854775808) (h : x ≠ 0) : ¬ lg_cmp (iL x) 0 = 0 := by
  unfold lg_cmp
  have e : ¬ iL x = 0 := fun z => h ((iL_eq (y := 0) h1 h2 (by omega) (by omega)).mp z)
  by_cases c : iL x > 0
  · rw [if_pos c]
    decide
  · rw [if_neg c, if_neg e]
    decide
theorem rs_t {β : BK} (hb : bk_ok β) (i : Nat) : (rs β (pF β i)).toInt = dR β i := by
  have h1 := hb.2.2.2.2.2.1 (8 * (pF β i).1 + (pF β i).2.2)
  have h2 := hb.2.2.2.2.2.1 (8 * (pF β i).1 + (pF β i).2.1)
  unfold rs dR
  rw [i32_sub (by rw [lv_t h1, lv_t h2]; omega) (by rw [lv_t h1, lv_t h2]; omega), lv_t h1, lv_t h2]
  omega
theorem rwt_t {β : BK} (hb : bk_ok β) (i : Nat) : (nI (rw1 β (pF β i))).toInt = dW β i := by
  have := wt_le hb ((pF β i).2.2 - (pF β i).2.1)
  exact nI_t (show rw1 β (pF β i) < 2 ^ 31 by unfold rw1; omega)
section CRW
variable {S : RSt} {j n : Nat} {β : BK}
def cM (S : RSt) (j n : Nat) (M : Nat → Nat → Int) : Prop := ∀ r q, r < n → q < 2 * n → st_g S (4 + 8 * j + r) q = iL (M r q)
def cU (S : RSt) (j n : Nat) (G : Nat → Int) : Prop := ∀ r, r < n → st_g S (2 + j) r = iL (G r)
def cQ (S : RSt) (j n : Nat) (π : Nat → Nat) : Prop := st_i S (39 + 2 * j) = nI n ∧ ∀ m, m < n → st_a S (26 + j) m = nI (π m)
/-- rows and pulls alone -/
def fW (j : Nat) : RSt → RSt → Prop := fr no no no (fun a => a = 2 + j ∨ (4 + 8 * j ≤ a ∧ a < 12 + 8 * j))
theorem cQ_fW {S' : RSt} {π : Nat → Nat} (Q : cQ S j n π) (f : fW j S S') : cQ S' j n π := ⟨by rw [f.1 _ (fun z => z)]; exact Q.1, fun m hm => by rw [f.2.2.1 _ (fun z => z)]; exact Q.2 m hm⟩
theorem cP_fW {S' : RSt} {k : Nat} {F : PF} (P : cP S j β k F) (f : fW j S S') : cP S' j β k F := ⟨by rw [f.1 _ (fun z => z)]; exact P.1, fun i hi => by rw [f.2.2.1 _ (fun z => z)]; exact P.2 i hi⟩
theorem c_isFirst {π : Nat → Nat} (hn : n ≤ 8) (Q : cQ S j n π) (hπ : ∀ m, m < n → π m ≤ m) {m : Nat} (hm : m < n) : fX1_isFirst j (nI m) S = some (if π m = m then 1 else 0, S) := by
  have := hπ m hm
  unfold fX1_isFirst
  rw [ob_in_t (vp_in_nI (show m < 8 by omega) (by decide)), nI_clamp (by omega), Q.2 m hm]
  by_cases c : π m = m
  · rw [if_pos (by rw [c]), if_pos c]
  · rw [if_neg (fun z => c ((nI_eq (by omega) (by omega)).mp z)), if_neg c]
theorem c_addPull {π : Nat → Nat} {G : Nat → Int} (hj : j < 2) (hn : n ≤ 8) (Q : cQ S j n π) (hπ : ∀ m, m < n → π m ≤ m) (U : cU S j n G) {m : Nat} (hm : m < n) {x : Int32} {y : Int} (hx : x.toInt = y) : ∃ S', fX1_addPull j (nI m) x S = some S' ∧ cU S' j n (fun r => G r + if r = m ∧ π m ≠ m then y else 0) ∧ fr no no no (fun a => a = 2 + j) S S' := by
  unfold fX1_addPull
  rw [ob_2t (c_isFirst hn Q hπ hm)]
  by_cases c : π m = m
  · rw [if_pos c, if_neg ne0]
    refine ⟨S, rfl, fun r hr => ?_, fr_rf⟩
    show st_g S (2 + j) r = iL (G r + if r = m ∧ π m ≠ m then y else 0)
    rw [if_neg (fun z => z.2 c), Int.add_zero]
    exact U r hr
  · rw [if_neg c, if_pos rfl, ob_in_t (vp_in_nI (show m < 8 by omega) (by decide)), ob_in_t (vp_in_nI (show m < 8 by omega) (by decide)), nI_clamp (by omega)]
    refine ⟨_, rfl, fun r hr => ?_, fr_sg rfl⟩
    show st_g _ (2 + j) r = iL (G r + if r = m ∧ π m ≠ m then y else 0)
    by_cases e : r = m
    · rw [sg_p rfl e, if_pos ⟨e, c⟩, U m hm, i32_l, hx, iL_add, e]
    · rw [sg_n (Or.inr e), if_neg (fun z => e z.1), Int.add_zero]
      exact U r hr
theorem c_addCell {π : Nat → Nat} {M : Nat → Nat → Int} (hj : j < 2) (hn : n ≤ 8) (Q : cQ S j n π) (hπ : ∀ m, m < n → π m ≤ m) (U : cM S j n M) {a b : Nat} (ha : a < n) (hb : b < n) {x : Int32} {y : Int} (hx : x.toInt = y) : ∃ S', fX1_addCell j (nI a) (nI b) x S = some S' ∧ cM S' j n (fun r q => M r q + if r = a ∧ q = b ∧ π a ≠ a ∧ π b ≠ b then y else 0) ∧ fr no no no (fun a => 4 + 8 * j ≤ a ∧ a < 12 + 8 * j) S S' := by
  unfold fX1_addCell
  rw [ob_2t (c_isFirst hn Q hπ ha)]
  by_cases c : π a = a
  · rw [if_pos c, if_neg ne0]
    refine ⟨S, rfl, fun r q hr hq => ?_, fr_rf⟩
    show st_g S (4 + 8 * j + r) q = iL (M r q + if r = a ∧ q = b ∧ π a ≠ a ∧ π b ≠ b then y else 0)
    rw [if_neg (fun z => z.2.2.1 c), Int.add_zero]
    exact U r q hr hq
  · rw [if_neg c, if_pos rfl, ob_2t (c_isFirst hn Q hπ hb)]
    by_cases c2 : π b = b
    · rw [if_pos c2, if_neg ne0]
      refine ⟨S, rfl, fun r q hr hq => ?_, fr_rf⟩
      show st_g S (4 + 8 * j + r) q = iL (M r q + if r = a ∧ q = b ∧ π a ≠ a ∧ π b ≠ b then y else 0)
      rw [if_neg (fun z => z.2.2.2 c2), Int.add_zero]
      exact U r q hr hq
    · rw [if_neg c2, if_pos rfl, ob_in_t (vp_in_nI (show a < 8 by omega) (by decide)), ob_in_t (vp_in_nI (show b < 16 by omega) (by decide)), ob_in_t (vp_in_nI (show b < 16 by omega) (by decide)), nI_clamp (by omega), nI_clamp (by omega)]
      refine ⟨_, rfl, fun r q hr hq => ?_, fr_sg ⟨by omega, by omega⟩⟩
      show st_g _ (4 + 8 * j + r) q = iL (M r q + if r = a ∧ q = b ∧ π a ≠ a ∧ π b ≠ b then y else 0)
      by_cases e : r = a ∧ q = b
      · rw [sg_p (by rw [e.1]) e.2, if_pos ⟨e.1, e.2, c, c2⟩, U a b ha (by omega), i32_l, hx, iL_add, e.1, e.2]
      · rw [sg_n (by omega), if_neg (fun z => e ⟨z.1, z.2.1⟩), Int.add_zero]
        exact U r q hr hq
/-- a pair's share -/
def pD (F : PF) (i r : Nat) : Int := dl r (F i).2.2 - dl r (F i).2.1
def mA (β : BK) (n : Nat) (π : Nat → Nat) (M : Nat → Nat → Int) (k : Nat) : Nat → Nat → Int := fun r q => M r q + if π r ≠ r ∧ (q < n ∧ π q ≠ q) then sm k (fun i => dW β i * (pD (pF β) i r * pD (pF β) i q)) else 0
def mG (β : BK) (π : Nat → Nat) (k : Nat) : Nat → Int := fun r => if π r ≠ r then sm k (fun i => dW β i * (dR β i * pD (pF β) i r)) else 0
theorem cM_cg {M M' : Nat → Nat → Int} (h : cM S j n M) (e : ∀ r q, r < n → q < 2 * n → M' r q = M r q) : cM S j n M' := fun r q hr hq => by rw [e r q hr hq]; exact h r q hr hq
theorem cU_cg {G G' : Nat → Int} (h : cU S j n G) (e : ∀ r, r < n → G' r = G r) : cU S j n G' := fun r hr => by rw [e r hr]; exact h r hr
theorem cM_fr {I J A G : Nat → Prop} {S' : RSt} {M : Nat → Nat → Int} (h : cM S j n M) (f : fr I J A G S S') (hn : n ≤ 8) (hg : ∀ a, 4 + 8 * j ≤ a → a < 12 + 8 * j → ¬ G a) : cM S' j n M := fun r q hr hq => by rw [f.2.2.2 _ (hg _ (by omega) (by omega))]; exact h r q hr hq
theorem cU_fr {I J A G : Nat → Prop} {S' : RSt} {g : Nat → Int} (h : cU S j n g) (f : fr I J A G S S') (hg : ¬ G (2 + j)) : cU S' j n g := fun r hr => by rw [f.2.2.2 _ hg]; exact h r hr
theorem wp_cell {r q f t n : Nat} {w s m : Int} {π : Nat → Nat} (hne : f ≠ t) (hf : f < n) (ht : t < n) : (m + if π r ≠ r ∧ (q < n ∧ π q ≠ q) then s + w * ((dl r t - dl r f) * (dl q t - dl q f)) else 0) = ((((m + if π r ≠ r ∧ (q < n ∧ π q ≠ q) then s else 0) + if r = f ∧ q = f ∧ π f ≠ f ∧ π f ≠ f then w else 0) + if r = t ∧ q = t ∧ π t ≠ t ∧ π t ≠ t then w else 0) + if r = f ∧ q = t ∧ π f ≠ f ∧ π t ≠ t then -w else 0) + if r = t ∧ q = f ∧ π t ≠ t ∧ π f ≠ f then -w else 0 := by
  have hne' : t ≠ f := fun z => hne z.symm
  by_cases hC : π r ≠ r ∧ (q < n ∧ π q ≠ q)
  · rw [if_pos hC, if_pos hC]
    obtain ⟨a1, a2, a3⟩ := hC
    by_cases r1 : r = f
    · subst r1
      rw [dl_p rfl, dl_n hne]
      by_cases q1 : q = r
      · subst q1
        rw [dl_p rfl, dl_n hne, if_pos ⟨rfl, rfl, a1, a1⟩, if_neg (fun z => hne z.1), if_neg (fun z => hne z.2.1), if_neg (fun z => hne z.1)]
        omega
      · by_cases q2 : q = t
        · subst q2
          rw [dl_p rfl, dl_n hne', if_neg (fun z => q1 z.2.1), if_neg (fun z => hne z.1), if_pos ⟨rfl, rfl, a1, a3⟩, if_neg (fun z => hne z.1)]
          omega
        · rw [dl_n q1, dl_n q2, if_neg (fun z => q1 z.2.1), if_neg (fun z => hne z.1), if_neg (fun z => q2 z.2.1), if_neg (fun z => hne z.1)]
          omega
    · by_cases r2 : r = t
      · subst r2
        rw [dl_p rfl, dl_n hne']
        by_cases q1 : q = f
        · subst q1
          rw [dl_p rfl, dl_n hne, if_neg (fun z => r1 z.1), if_neg (fun z => hne z.2.1), if_neg (fun z => r1 z.1), if_pos ⟨rfl, rfl, a1, a3⟩]
          omega
        · by_cases q2 : q = r
          · subst q2
            rw [dl_p rfl, dl_n hne', if_neg (fun z => r1 z.1), if_pos ⟨rfl, rfl, a1, a1⟩, if_neg (fun z => r1 z.1), if_neg (fun z => r1 z.2.1)]
            omega
          · rw [dl_n q1, dl_n q2, if_neg (fun z => r1 z.1), if_neg (fun z => q2 z.2.1), if_neg (fun z => r1 z.1), if_neg (fun z => q1 z.2.1)]
            omega
      · rw [dl_n r1, dl_n r2, if_neg (fun z => r1 z.1), if_neg (fun z => r2 z.1), if_neg (fun z => r1 z.1), if_neg (fun z => r2 z.1)]
        omega
  · have z0 : ∀ x y, y < n → r = x → q = y → π x ≠ x → ¬ π y ≠ y := fun x y hy e1 e2 z1 z2 => hC ⟨by rw [e1]; exact z1, by omega, by rw [e2]; exact z2⟩
    rw [if_neg hC, if_neg hC, if_neg (fun z => z0 f f hf z.1 z.2.1 z.2.2.1 z.2.2.2), if_neg (fun z => z0 t t ht z.1 z.2.1 z.2.2.1 z.2.2.2), if_neg (fun z => z0 f t ht z.1 z.2.1 z.2.2.1 z.2.2.2), if_neg (fun z => z0 t f hf z.1 z.2.1 z.2.2.1 z.2.2.2)]
    omega
theorem wp_pull {r f t : Nat} {w u s : Int} {π : Nat → Nat} (hne : f ≠ t) : (if π r ≠ r then s + w * (u * (dl r t - dl r f)) else 0) = ((if π r ≠ r then s else 0) + if r = f ∧ π f ≠ f then -w * u else 0) + if r = t ∧ π t ≠ t then w * u else 0 := by
  by_cases hC : π r ≠ r
  · rw [if_pos hC, if_pos hC]
    by_cases r1 : r = f
    · subst r1
      rw [dl_p rfl, dl_n hne, if_pos ⟨rfl, hC⟩, if_neg (fun z => hne z.1)]
      grind
    · by_cases r2 : r = t
      · subst r2
        rw [dl_p rfl, dl_n r1, if_neg (fun z => r1 z.1), if_pos ⟨rfl, hC⟩]
        grind
      · rw [dl_n r1, dl_n r2, if_neg (fun z => r1 z.1), if_neg (fun z => r2 z.1)]
        omega
  · rw [if_neg hC, if_neg hC, if_neg (fun z => hC (by rw [z.1]; exact z.2)), if_neg (fun z => hC (by rw [z.1]; exact z.2))]
    omega
theorem c_writePair (hj : j < 2) (hb : bk_ok β) {π : Nat → Nat} (hn : n ≤ 8) (Q : cQ S j n π) (hπ : ∀ m, m < n → π m ≤ m) {k : Nat} {M : Nat → Nat → Int} {i : Nat} (P : cP S j β k (pF β)) (hi : i < k) (hF : (pF β i).2.1 < (pF β i).2.2 ∧ (pF β i).2.2 < n) (U : cM S j n (mA β n π M i)) (G : cU S j n (mG β π i)) : ∃ S', fX1_writePair j i S = some S' ∧ cM S' j n (mA β n π M (i + 1)) ∧ cU S' j n (mG β π (i + 1)) ∧ fW j S S' := by
  obtain ⟨c0, c1, c2, c3, c4⟩ := clA
  obtain ⟨i0, i1, i2, i3, i4⟩ := inA
  obtain ⟨p0, p1, p2, p3, p4⟩ := P.2 i hi
  have w := dW_b hb i
  have d := dR_b hb i
  have wt := rwt_t hb i
  have rt := rs_t hb i
  have wn : (-(nI (rw1 β (pF β i)))).toInt = - dW β i := i32_neg wt (by omega) (by omega)
  have b1 := i_mul_b (a := dW β i) (b := dR β i) (x := 3) (y := 1000) (by omega) w.2 (by omega) d.2
  have b2 := i_mul_b (a := - dW β i) (b := dR β i) (x := 3) (y := 1000) (by omega) (by omega) (by omega) d.2
  unfold fX1_writePair
  rw [ob_in_t i1, ob_in_t i2, ob_in_t i4, ob_in_t i3, c1, c2, c3, c4, p1, p2, p3, p4]
  obtain ⟨S1, e1, g1, f1⟩ := c_addPull hj hn Q hπ G (m := (pF β i).2.1) (by omega) (i32_mul wn rt (by omega) (by omega))
  have F1 : fW j S S1 := fr_mo f1 (fun _ z => z) (fun _ z => z) (fun _ z => z) (fun _ z => Or.inl z)
  rw [ob_1t e1, ob_in_t i3, f1.2.2.1 _ (fun z => z), p3]
  obtain ⟨S2, e2, g2, f2⟩ := c_addPull hj hn (cQ_fW Q F1) hπ g1 (m := (pF β i).2.2) hF.2 (i32_mul wt rt (by omega) (by omega))
  have F2 : fW j S S2 := fr_tr F1 (fr_mo f2 (fun _ z => z) (fun _ z => z) (fun _ z => z) (fun _ z => Or.inl z))
  rw [ob_1t e2]
  have U2 : cM S2 j n (mA β n π M i) := cM_fr (cM_fr U f1 hn (by omega)) f2 hn (by omega)
  obtain ⟨S3, e3, g3, f3⟩ := c_addCell hj hn (cQ_fW Q F2) hπ U2 (a := (pF β i).2.1) (b := (pF β i).2.1) (by omega) (by omega) wt
  have F3 : fW j S S3 := fr_tr F2 (fr_mo f3 (fun _ z => z) (fun _ z => z) (fun _ z => z) (fun _ z => Or.inr z))
  rw [ob_1t e3]
  obtain ⟨S4, e4, g4, f4⟩ := c_addCell hj hn (cQ_fW Q F3) hπ g3 (a := (pF β i).2.2) (b := (pF β i).2.2) hF.2 hF.2 wt
  have F4 : fW j S S4 := fr_tr F3 (fr_mo f4 (fun _ z => z) (fun _ z => z) (fun _ z => z) (fun _ z => Or.inr z))
  rw [ob_1t e4]
  obtain ⟨S5, e5, g5, f5⟩ := c_addCell hj hn (cQ_fW Q F4) hπ g4 (a := (pF β i).2.1) (b := (pF β i).2.2) (by omega) hF.2 wn
  have F5 : fW j S S5 := fr_tr F4 (fr_mo f5 (fun _ z => z) (fun _ z => z) (fun _ z => z) (fun _ z => Or.inr z))
  rw [ob_1t e5]
  obtain ⟨S6, e6, g6, f6⟩ := c_addCell hj hn (cQ_fW Q F5) hπ g5 (a := (pF β i).2.2) (b := (pF β i).2.1) hF.2 (by omega) wn
  have F6 : fW j S S6 := fr_tr F5 (fr_mo f6 (fun _ z => z) (fun _ z => z) (fun _ z => z) (fun _ z => Or.inr z))
  rw [ob_1t e6]
  refine ⟨S6, rfl, cM_cg g6 (fun r q hr hq => ?_), cU_cg (cU_fr (cU_fr (cU_fr (cU_fr g2 f3 (by omega)) f4 (by omega)) f5 (by omega)) f6 (by omega)) (fun r hr => ?_), F6⟩
  · have hft := hF.1
    have htn := hF.2
    exact wp_cell (by omega) (by omega) htn
  · have hft := hF.1
    exact wp_pull (by omega)
end CRW
