/-! The landed book's methods in words of a book. -/
section CBK
variable {S S' : RSt} {j u : Nat} {β : BK}
theorem c_hasHome0 (B : cB S j β) {x : Int32} (h : ixb x (bk_h β)) : fX0_hasHome j x S = some (0, S) := by
  unfold fX0_hasHome
  rcases h with h | ⟨h, h2⟩
  · rw [if_pos h]
  · rw [if_neg h, B.2.2.1, if_pos h2]
theorem c_hasHome1 (B : cB S j β) {k : Nat} (h : k < bk_h β) : fX0_hasHome j (nI k) S = some (1, S) := by
  have hh := B.1.2.2.1
  unfold fX0_hasHome
  rw [if_neg (nI_pos (by omega)), B.2.2.1, if_neg (nI_ge h (by omega))]
theorem c_hasMonth0 (B : cB S j β) {x : Int32} (h : ixb x (bk_n β)) : fX0_hasMonth j x S = some (0, S) := by
  unfold fX0_hasMonth
  rcases h with h | ⟨h, h2⟩
  · rw [if_pos h]
  · rw [if_neg h, B.2.1, if_pos h2]
theorem c_hasMonth1 (B : cB S j β) {k : Nat} (h : k < bk_n β) : fX0_hasMonth j (nI k) S = some (1, S) := by
  have hh := B.1.2.1
  unfold fX0_hasMonth
  rw [if_neg (nI_pos (by omega)), B.2.1, if_neg (nI_ge h (by omega))]
theorem c_hasGap0 (B : cB S j β) {x : Int32} (h : ixb x (bk_n β) ∨ x = nI 0) : fX0_hasGap j x S = some (0, S) := by
  have hn := B.1
  unfold fX0_hasGap
  by_cases c : x < 1
  · rw [if_pos c]
  · rw [if_neg c, B.2.1]
    rcases h with (h | ⟨_, h2⟩) | h
    · exfalso
      apply c
      rw [Int32.lt_iff_toInt_lt] at h ⊢
      rw [show (0 : Int32).toInt = 0 by decide] at h
      rw [show (1 : Int32).toInt = 1 by decide]
      omega
    · rw [if_pos h2]
    · exfalso
      apply c
      rw [h]
      decide
theorem c_hasGap1 (B : cB S j β) {k : Nat} (h0 : 0 < k) (h : k < bk_n β) : fX0_hasGap j (nI k) S = some (1, S) := by
  have hh := B.1.2.1
  unfold fX0_hasGap
  rw [if_neg (show ¬ nI k < (1 : Int32) from nI_nlt (b := 1) h0 (by omega)), B.2.1, if_neg (nI_ge h (by omega))]
theorem ix_88 {a b : Nat} (ha : a < 6) (hb : b < 8) : nI a * (8 : Int32) + nI b = nI (8 * a + b) := by
  rw [show (8 : Int32) = nI 8 from rfl, pk_mul, nI_add, Nat.mul_comm]
theorem c_levelAt0 (B : cB S j β) {x y : Int32} (h : ixb x (bk_h β) ∨ ixb y (bk_n β)) : fX0_levelAt j x y S = some (-1, S) := by
  have hk := B.1
  unfold fX0_levelAt
  rcases ix_or x (n := bk_h β) (by have := hk.2.2.1; omega) with hx | ⟨a, ha, rfl⟩
  · rw [ob_2t (c_hasHome0 B hx), if_pos rfl]
  · rw [ob_2t (c_hasHome1 B ha), if_neg ne0]
    rcases h with (h | ⟨_, h⟩) | h
    · exact absurd h (nI_pos (by have := hk.2.2.1; omega))
    · exact absurd h (nI_ge ha (by have := hk.2.2.1; omega))
    · rw [ob_2t (c_hasMonth0 B h), if_pos rfl]
theorem c_levelAt1 (B : cB S j β) {a b : Nat} (ha : a < bk_h β) (hb : b < bk_n β) : fX0_levelAt j (nI a) (nI b) S = some (nI (bk_v β (8 * a + b)) - 1, S) := by
  have h1 := B.1.2.2.1
  have h2 := B.1.2.1
  unfold fX0_levelAt
  rw [ob_2t (c_hasHome1 B ha), if_neg ne0, ob_2t (c_hasMonth1 B hb), if_neg ne0, ix_88 (by omega) (by omega), ob_in_t (vp_in_nI (by omega) (by decide)), nI_clamp (by omega), B.2.2.2.2.2 _ (by omega)]
/-- the level at any two ints -/
theorem c_levelAt (B : cB S j β) (x y : Int32) : (fX0_levelAt j x y S = some (-1, S) ∧ (ixb x (bk_h β) ∨ ixb y (bk_n β))) ∨ ∃ a b, a < bk_h β ∧ b < bk_n β ∧ x = nI a ∧ y = nI b ∧ fX0_levelAt j x y S = some (nI (bk_v β (8 * a + b)) - 1, S) := by
  have h1 := B.1.2.2.1
  have h2 := B.1.2.1
  rcases ix_or x (n := bk_h β) (by omega) with hx | ⟨a, ha, rfl⟩
  · exact Or.inl ⟨c_levelAt0 B (Or.inl hx), Or.inl hx⟩
  · rcases ix_or y (n := bk_n β) (by omega) with hy | ⟨b, hb, rfl⟩
    · exact Or.inl ⟨c_levelAt0 B (Or.inr hy), Or.inr hy⟩
    · exact Or.inr ⟨a, b, ha, hb, rfl, rfl, c_levelAt1 B ha hb⟩
theorem c_v30 (B : cB S j β) (k : Nat) : bk_v β k < 2 ^ 30 := by
  have := B.1.2.2.2.2.2.1 k
  omega
/-- a sale can come: the places, none there, a level -/
theorem c_canTake1 (B : cB S j β) {a b v : Nat} (ha : a < bk_h β) (hb : b < bk_n β) (hv : bk_v β (8 * a + b) = 0) (hl : v ≤ 999) : fX0_canTake j (nI a) (nI b) (nI v) S = some (1, S) := by
  have h1 := B.1.2.2.1
  have h2 := B.1.2.1
  unfold fX0_canTake
  rw [ob_2t (c_hasHome1 B ha), if_neg ne0, ob_2t (c_hasMonth1 B hb), if_neg ne0, ix_88 (by omega) (by omega), ob_in_t (vp_in_nI (by omega) (by decide)), nI_clamp (by omega), B.2.2.2.2.2 _ (by omega), if_pos ((nI_m1 (c_v30 B _)).mpr hv), if_neg (nI_pos (by omega)), if_neg (show ¬ (999 : Int32) < nI v from nI_nlt (a := 999) (b := v) hl (by decide))]
theorem c_canTake0 (B : cB S j β) {x y z : Int32} (h : ixb x (bk_h β) ∨ ixb y (bk_n β) ∨ (∃ a b, a < bk_h β ∧ b < bk_n β ∧ x = nI a ∧ y = nI b ∧ bk_v β (8 * a + b) ≠ 0) ∨ z < 0 ∨ 999 < z) : fX0_canTake j x y z S = some (0, S) := by
  have h1 := B.1.2.2.1
  have h2 := B.1.2.1
  unfold fX0_canTake
  rcases ix_or x (n := bk_h β) (by omega) with hx | ⟨a, ha, rfl⟩
  · rw [ob_2t (c_hasHome0 B hx), if_pos rfl]
  · rw [ob_2t (c_hasHome1 B ha), if_neg ne0]
    rcases ix_or y (n := bk_n β) (by omega) with hy | ⟨b, hb, rfl⟩
    · rw [ob_2t (c_hasMonth0 B hy), if_pos rfl]
    · rw [ob_2t (c_hasMonth1 B hb), if_neg ne0, ix_88 (by omega) (by omega), ob_in_t (vp_in_nI (by omega) (by decide)), nI_clamp (by omega), B.2.2.2.2.2 _ (by omega)]
      by_cases hv : bk_v β (8 * a + b) = 0
      · rw [if_pos ((nI_m1 (c_v30 B _)).mpr hv)]
        rcases h with (h | ⟨_, h⟩) | (h | ⟨_, h⟩) | ⟨a', b', h1', h2', e1, e2, h⟩ | h | h
        · exact absurd h (nI_pos (by omega))
        · exact absurd h (nI_ge ha (by omega))
        · exact absurd h (nI_pos (by omega))
        · exact absurd h (nI_ge hb (by omega))
        · have e1 := (nI_eq (by omega) (by omega)).mp e1
          have e2 := (nI_eq (by omega) (by omega)).mp e2
          subst e1
          subst e2
          exact absurd hv h
        · rw [if_pos h]
        · by_cases q : z < 0
          · rw [if_pos q]
          · rw [if_neg q, if_pos h]
      · rw [if_neg (fun q => hv ((nI_m1 (c_v30 B _)).mp q))]
/-- any three ints: they can be taken, or not -/
theorem c_canTake (B : cB S j β) (x y z : Int32) : fX0_canTake j x y z S = some (0, S) ∨ ∃ a b v, a < bk_h β ∧ b < bk_n β ∧ v ≤ 999 ∧ x = nI a ∧ y = nI b ∧ z = nI v ∧ bk_v β (8 * a + b) = 0 ∧ fX0_canTake j x y z S = some (1, S) := by
  have h1 := B.1.2.2.1
  have h2 := B.1.2.1
  rcases ix_or x (n := bk_h β) (by omega) with hx | ⟨a, ha, rfl⟩
  · exact Or.inl (c_canTake0 B (Or.inl hx))
  · rcases ix_or y (n := bk_n β) (by omega) with hy | ⟨b, hb, rfl⟩
    · exact Or.inl (c_canTake0 B (Or.inr (Or.inl hy)))
    · by_cases hv : bk_v β (8 * a + b) = 0
      · rcases ix_or z (n := 1000) (by decide) with hz | ⟨v, hz, rfl⟩
        · refine Or.inl (c_canTake0 B (Or.inr (Or.inr (Or.inr ?_))))
          rcases hz with hz | ⟨_, hz⟩
          · exact Or.inl hz
          · refine Or.inr ?_
            rw [Int32.le_iff_toInt_le, nI_t (by decide)] at hz
            rw [Int32.lt_iff_toInt_lt, show (999 : Int32).toInt = 999 by decide]
            omega
        · exact Or.inr ⟨a, b, v, ha, hb, by omega, rfl, rfl, rfl, hv, c_canTake1 B ha hb hv (by omega)⟩
      · exact Or.inl (c_canTake0 B (Or.inr (Or.inr (Or.inl ⟨a, b, ha, hb, rfl, rfl, hv⟩))))
/-- the book with one more home, a sale put or taken, all levels of a home moved, a weight -/
def bk_home (β : BK) : BK := (bk_n β, bk_h β + 1, bk_w β, bk_v β)
def bk_set (β : BK) (k x : Nat) : BK := (bk_n β, bk_h β, bk_w β, va_up (bk_v β) k x)
def bk_weigh (β : BK) (g x : Nat) : BK := (bk_n β, bk_h β, va_up (bk_w β) g x, bk_v β)
theorem bk_home_ok (h : bk_ok β) (hh : bk_h β < 6) : bk_ok (bk_home β) := by
  obtain ⟨h1, h2, h3, h4, h5, h6, h7⟩ := h
  refine ⟨h1, h2, ?_, h4, h5, h6, fun a b hb hv => ?_⟩
  · show bk_h β + 1 ≤ 6
    omega
  · have := h7 a b hb hv
    show a < bk_h β + 1 ∧ b < bk_n β
    omega
theorem bk_set_ok (h : bk_ok β) {a b x : Nat} (ha : a < bk_h β) (hb : b < bk_n β) (hx : x ≤ 1000) : bk_ok (bk_set β (8 * a + b) x) := by
  obtain ⟨h1, h2, h3, h4, h5, h6, h7⟩ := h
  refine ⟨h1, h2, h3, h4, h5, fun k => ?_, fun a' b' hb' hv => ?_⟩
  · show va_up (bk_v β) (8 * a + b) x k ≤ 1000
    unfold va_up
    split
    · exact hx
    · exact h6 k
  · show a' < bk_h β ∧ b' < bk_n β
    by_cases e : 8 * a' + b' = 8 * a + b
    · have : b < 8 := by omega
      omega
    · exact h7 a' b' hb' (by
        have : va_up (bk_v β) (8 * a + b) x (8 * a' + b') ≠ 0 := hv
        rw [va_up_ne _ _ e] at this
        exact this)
theorem bk_weigh_ok (h : bk_ok β) {g x : Nat} (hg : 0 < g) (hg2 : g < bk_n β) (hx : x ≤ 3) : bk_ok (bk_weigh β g x) := by
  obtain ⟨h1, h2, h3, h4, h5, h6, h7⟩ := h
  refine ⟨h1, h2, h3, fun k => ?_, fun k hk => ?_, h6, h7⟩
  · show va_up (bk_w β) g x k ≤ 3
    unfold va_up
    split
    · exact hx
    · exact h4 k
  · show va_up (bk_w β) g x k = 0
    have hk : k = 0 ∨ bk_n β ≤ k := hk
    rw [va_up_ne _ _ (by omega)]
    exact h5 k hk
theorem c_addHome (B : cB S j β) (hh : bk_h β < 6) : ∃ S', fX0_addHome j S = some (nI (bk_h β), S') ∧ cB S' j (bk_home β) ∧ fB j S S' := by
  refine ⟨st_si S (3 * j + 1) (nI (bk_h β + 1)), ?_, ?_, fr_si (Or.inr (Or.inl rfl))⟩
  · unfold fX0_addHome
    rw [st_i_eq, B.2.2.1, nI_1, nI_pred]
  refine ⟨bk_home_ok B.1 hh, ?_, ?_, ?_, B.2.2.2.2.1, B.2.2.2.2.2⟩
  · rw [st_i_ne (by omega)]
    exact B.2.1
  · rw [st_i_eq]
    rfl
  · rw [st_i_ne (by omega)]
    exact B.2.2.2.1
theorem nI_lv {v : Nat} (h : v ≤ 999) : nI v = nI (v + 1) - 1 := (nI_pred v).symm
/-- one level written, the number of sales brought up to date -/
theorem c_write (B : cB S j β) {a b x : Nat} (ha : a < bk_h β) (hb : b < bk_n β) (hx : x ≤ 1000) {c : Int32} (hc : c = nI (bk_c (bk_set β (8 * a + b) x))) : cB (st_si (st_sa S (2 * j + 1) (8 * a + b) (nI x - 1)) (3 * j + 2) c) j (bk_set β (8 * a + b) x) := by
  have h1 := B.1.2.2.1
  have h2 := B.1.2.1
  refine ⟨bk_set_ok B.1 ha hb hx, ?_, ?_, ?_, fun g hg => ?_, fun k hk => ?_⟩
  · rw [st_i_ne (by omega)]
    exact B.2.1
  · rw [st_i_ne (by omega)]
    exact B.2.2.1
  · rw [st_i_eq]
    exact hc
  · rw [st_a_si, st_a_ne (by omega)]
    exact B.2.2.2.2.1 g hg
  · rw [st_a_si, st_a_eq]
    show _ = nI (va_up (bk_v β) (8 * a + b) x k) - 1
    unfold va_up upd
    by_cases e : k = 8 * a + b
    · rw [if_pos e, if_pos e]
    · rw [if_neg e, if_neg e]
      exact B.2.2.2.2.2 k hk
theorem bk_c_set {k x : Nat} (hk : k < 48) : bk_c (bk_set β k x) + (if bk_v β k = 0 then 0 else 1) = bk_c β + (if x = 0 then 0 else 1) := ct_up hk
theorem bk_c_le (β : BK) : bk_c β ≤ 48 := ct_le _ _
theorem c_putSale1 (B : cB S j β) {a b v : Nat} (ha : a < bk_h β) (hb : b < bk_n β) (hv : bk_v β (8 * a + b) = 0) (hl : v ≤ 999) : ∃ S', fX0_putSale j (nI a) (nI b) (nI v) S = some S' ∧ cB S' j (bk_set β (8 * a + b) (v + 1)) ∧ fB j S S' ∧ bk_c (bk_set β (8 * a + b) (v + 1)) = bk_c β + 1 := by
  have h1 := B.1.2.2.1
  have h2 := B.1.2.1
  have hc := bk_c_set (β := β) (k := 8 * a + b) (x := v + 1) (by omega)
  rw [if_pos hv, if_neg (by omega)] at hc
  have hc : bk_c (bk_set β (8 * a + b) (v + 1)) = bk_c β + 1 := by omega
  refine ⟨_, ?_, c_write B ha hb (x := v + 1) (by omega) (c := nI (bk_c β) + 1) (by rw [hc, nI_1]), ?_, hc⟩
  · unfold fX0_putSale
    rw [ob_2t (c_canTake1 B ha hb hv hl), if_neg ne0, ix_88 (by omega) (by omega), ob_in_t (vp_in_nI (by omega) (by decide)), nI_clamp (by omega), st_i_sa, B.2.2.2.1, nI_lv hl]
  · exact fr_tr (fr_sa (Or.inr rfl)) (fr_si (Or.inr (Or.inr rfl)))
theorem c_takeSale1 (B : cB S j β) {a b : Nat} (ha : a < bk_h β) (hb : b < bk_n β) (hv : bk_v β (8 * a + b) ≠ 0) : ∃ S', fX0_takeSale j (nI a) (nI b) S = some S' ∧ cB S' j (bk_set β (8 * a + b) 0) ∧ fB j S S' ∧ bk_c (bk_set β (8 * a + b) 0) + 1 = bk_c β := by
  have h1 := B.1.2.2.1
  have h2 := B.1.2.1
  have hc := bk_c_set (β := β) (k := 8 * a + b) (x := 0) (by omega)
  rw [if_neg hv, if_pos rfl] at hc
  refine ⟨_, ?_, c_write B ha hb (x := 0) (by omega) (c := nI (bk_c β) - 1) (by rw [show bk_c β = bk_c (bk_set β (8 * a + b) 0) + 1 by omega, nI_pred]), ?_, by omega⟩
  · unfold fX0_takeSale
    rw [ob_2t (c_levelAt1 B ha hb), if_neg (fun q => hv ((nI_m1 (c_v30 B _)).mp q)), ix_88 (by omega) (by omega), ob_in_t (vp_in_nI (by omega) (by decide)), nI_clamp (by omega), st_i_sa, B.2.2.2.1]
    rfl
  · exact fr_tr (fr_sa (Or.inr rfl)) (fr_si (Or.inr (Or.inr rfl)))
theorem c_takeSale0 (B : cB S j β) {a b : Nat} (ha : a < bk_h β) (hb : b < bk_n β) (hv : bk_v β (8 * a + b) = 0) : fX0_takeSale j (nI a) (nI b) S = some S := by
  unfold fX0_takeSale
  rw [ob_2t (c_levelAt1 B ha hb), if_pos ((nI_m1 (c_v30 B _)).mpr hv)]
/-- a book without the sales of a home in the months ahead of m -/
def bk_clr (β : BK) (a m : Nat) : BK := (bk_n β, bk_h β, bk_w β, fun k => if 8 * a ≤ k ∧ k < 8 * a + m then 0 else bk_v β k)
theorem bk_clr0 (a : Nat) : bk_clr β a 0 = β := by
  unfold bk_clr
  have : (fun k => if 8 * a ≤ k ∧ k < 8 * a + 0 then 0 else bk_v β k) = bk_v β := funext fun k => if_neg (by omega)
  rw [this]
  rfl
theorem bk_clr_s (a m : Nat) : bk_set (bk_clr β a m) (8 * a + m) 0 = bk_clr β a (m + 1) := by
  unfold bk_clr bk_set
  have : va_up (bk_v (bk_n β, bk_h β, bk_w β, fun k => if 8 * a ≤ k ∧ k < 8 * a + m then 0 else bk_v β k)) (8 * a + m) 0 = (fun k => if 8 * a ≤ k ∧ k < 8 * a + (m + 1) then 0 else bk_v β k) := by
    funext k
    show (if k = 8 * a + m then 0 else if 8 * a ≤ k ∧ k < 8 * a + m then 0 else bk_v β k) = _
    by_cases e : k = 8 * a + m
    · rw [if_pos e, if_pos (by omega)]
    · rw [if_neg e]
      by_cases c : 8 * a ≤ k ∧ k < 8 * a + m
      · rw [if_pos c, if_pos (by omega)]
      · rw [if_neg c, if_neg (by omega)]
  rw [this]
  rfl
theorem bk_clr_e {a m : Nat} (h : bk_v β (8 * a + m) = 0) : bk_clr β a m = bk_clr β a (m + 1) := by
  unfold bk_clr
  have : (fun k => if 8 * a ≤ k ∧ k < 8 * a + m then 0 else bk_v β k) = (fun k => if 8 * a ≤ k ∧ k < 8 * a + (m + 1) then 0 else bk_v β k) := by
    funext k
    by_cases c : 8 * a ≤ k ∧ k < 8 * a + m
    · rw [if_pos c, if_pos (by omega)]
    · rw [if_neg c]
      by_cases e : k = 8 * a + m
      · rw [if_pos (by omega), e, h]
      · rw [if_neg (by omega)]
  rw [this]
theorem c_clearHome (B : cB S j β) {a : Nat} (ha : a < bk_h β) : ∃ S', fX0_clearHome j (nI a) S = some S' ∧ cB S' j (bk_clr β a (bk_n β)) ∧ fB j S S' := by
  have h2 := B.1.2.1
  obtain ⟨S', e, h⟩ := lp_up (fun n i s => fX0_clearHome_L2 j n (nI a) (nI i) s) (fun i s => cB s j (bk_clr β a i) ∧ fB j S s) (bk_n β) (fun r => cB r j (bk_clr β a (bk_n β)) ∧ fB j S r)
    (fun n s h => ⟨s, by
      show fX0_clearHome_L2 j (n + 1) (nI a) (nI (bk_n β)) s = some s
      rw [fX0_clearHome_L2, h.1.2.1, show bk_n (bk_clr β a (bk_n β)) = bk_n β from rfl, if_pos (nI_le (Nat.le_refl _) (by omega))], h⟩)
    (fun n i s hi h => Or.inr (by
      show ∃ s', _ ∧ fX0_clearHome_L2 j (n + 1) (nI a) (nI i) s = fX0_clearHome_L2 j n (nI a) (nI (i + 1)) s'
      rw [fX0_clearHome_L2, h.1.2.1, show bk_n (bk_clr β a i) = bk_n β from rfl, if_neg (nI_ge (b := bk_n β) hi (by omega)), nI_1]
      by_cases hv : bk_v (bk_clr β a i) (8 * a + i) = 0
      · refine ⟨s, ⟨?_, h.2⟩, by rw [ob_1t (c_takeSale0 h.1 ha hi hv)]⟩
        have hv2 : bk_v β (8 * a + i) = 0 := by
          have : (if 8 * a ≤ 8 * a + i ∧ 8 * a + i < 8 * a + i then 0 else bk_v β (8 * a + i)) = 0 := hv
          rw [if_neg (by omega)] at this
          exact this
        rw [← bk_clr_e hv2]
        exact h.1
      · obtain ⟨s', e1, e2, e3, -⟩ := c_takeSale1 h.1 ha hi hv
        refine ⟨s', ⟨?_, fr_tr h.2 e3⟩, by rw [ob_1t e1]⟩
        rw [← bk_clr_s]
        exact e2))
    (bk_n β) 0 1000 S (by omega) (by omega) ⟨by rw [bk_clr0]; exact B, fr_rf⟩
  refine ⟨S', ?_, h⟩
  unfold fX0_clearHome
  rw [show (0 : Int32) = nI 0 from rfl, ob_1t e]
end CBK
