/-! feed: the same bytes come behind both tapes. -/
/-- the byte of an int that k places to the right brings down -/
def byt (x : Int32) (k : Nat) : Nat := x.toBitVec.toNat / 2 ^ k % 256
theorem byt_lt (x : Int32) (k : Nat) : byt x k < 256 := Nat.mod_lt _ (by decide)
theorem byt_m (x : Int32) {k : Nat} (hk : k < 32) : ((x.toUInt32 >>> ((nI k).toUInt32 &&& Int32.toUInt32 31)).toInt32) &&& (255 : Int32) = nI (byt x k) := by
  have hs : ∀ n, n < 32 → (((nI n).toUInt32 &&& Int32.toUInt32 31).toBitVec % 32).toNat = n := by decide
  rw [pk_and _ (m := 255) 8 (by decide), pk_ushr x (nI k) k (hs k hk)]
  rfl
theorem byt_c (x : Int32) {k : Nat} (hk : k ≤ 24) : vp_nar .byte ((x >>> (nI k &&& 31)).toInt8.toInt32) = sb_b (byt x k) := by
  rw [pk_vb]
  unfold sb_b
  have hs : ∀ n, n < 32 → ((nI n &&& 31).toBitVec.smod 32).toNat = n := by decide
  have e : (x >>> (nI k &&& 31)).toInt8 = (nI (byt x k)).toInt8 := by
    apply Int8.toBitVec_inj.mp
    apply BitVec.eq_of_getLsbD_eq
    intro i hi
    have h1 : (x >>> (nI k &&& 31)).toInt8.toBitVec.getLsbD i = x.toBitVec.getLsbD (k + i) := by
      rw [Int32.toBitVec_toInt8, BitVec.getLsbD_signExtend, if_pos (show i < 32 by omega), Int32.toBitVec_shiftRight, BitVec.getLsbD_sshiftRight', hs k (by omega), if_pos (show k + i < 32 by omega)]
      simp [hi]
      omega
    have h2 : (nI (byt x k)).toInt8.toBitVec.getLsbD i = x.toBitVec.getLsbD (k + i) := by
      rw [Int32.toBitVec_toInt8, BitVec.getLsbD_signExtend, if_pos (show i < 32 by omega)]
      have : (nI (byt x k)).toBitVec.getLsbD i = (byt x k).testBit i := by
        rw [← BitVec.testBit_toNat, pk_tn (by have := byt_lt x k; omega)]
      rw [this]
      unfold byt
      rw [show (256 : Nat) = 2 ^ 8 from rfl, Nat.testBit_mod_two_pow, Nat.testBit_div_two_pow, ← BitVec.testBit_toNat, Nat.add_comm k i]
      simp [hi]
    rw [h1, h2]
  rw [e]
/-- a tape's bytes with four more -/
def y4 (l : Nat) (y : Nat → Nat) (x : Int32) : Nat → Nat := fun k => if k < l then y k else if k = l then byt x 24 else if k = l + 1 then byt x 16 else if k = l + 2 then byt x 8 else byt x 0
def cT (S : RSt) (l : Nat) (y : Nat → Nat) : Prop := st_i S 45 = nI l ∧ ∀ k, k < l → st_a S 112 k = sb_b (y k)
def mT' (S : RSt) (l : Nat) (y : Nat → Nat) : Prop := st_i S 1 = nI l ∧ ∀ k, k < l → st_a S 0 k = nI (y k)
def fT : RSt → RSt → Prop := fr (fun k => k = 45) no (fun a => a = 112) no
def fM : RSt → RSt → Prop := fr (fun k => k = 1) no (fun a => a = 0) no
theorem c_room {S : RSt} {l d : Nat} (h : st_i S 45 = nI l) (hl : l + d ≤ 540) : fX3_hasRoom (nI d) S = some (1, S) := by
  unfold fX3_hasRoom
  rw [h, nI_add, if_neg (show ¬ (540 : Int32) < nI (l + d) from nI_nlt (a := 540) hl (by decide))]
theorem c_room0 {S : RSt} {l d : Nat} (h : st_i S 45 = nI l) (hl : 540 < l + d) (hd : l + d < 2000) : fX3_hasRoom (nI d) S = some (0, S) := by
  unfold fX3_hasRoom
  rw [h, nI_add, if_pos (show (540 : Int32) < nI (l + d) from nI_lt (a := 540) hl (by omega))]
/-- one byte of a number -/
theorem c_byte {S : RSt} {l k n : Nat} {y : Nat → Nat} {x : Int32} (h : cT S l y) (hl : l < 540) (hk : k ≤ 24) : ∃ S', fX3_addNumber_L3 (n + 1) x (nI k) S = fX3_addNumber_L3 n x (nI k + (-8 : Int32)) S' ∧ cT S' (l + 1) (fun j => if j < l then y j else byt x k) ∧ fT S S' := by
  refine ⟨st_si (st_sa S 112 l (sb_b (byt x k))) 45 (nI (l + 1)), ?_, ⟨st_i_eq, fun j hj => ?_⟩, fr_tr (fr_sa rfl) (fr_si rfl)⟩
  · rw [fX3_addNumber_L3, if_neg (nI_pos (by omega)), show (1 : Int32) = nI 1 from rfl, ob_2t (c_room h.1 (by omega)), if_neg (by decide), h.1, ob_in_t (vp_in_nI hl (by decide)), nI_clamp (by omega), byt_c x hk, st_i_sa, h.1, show nI 1 = (1 : Int32) from rfl, nI_1]
  · rw [st_a_si, st_a_eq]
    unfold upd
    by_cases e : j = l
    · rw [if_pos e]
      show sb_b (byt x k) = sb_b (if j < l then y j else byt x k)
      rw [if_neg (by omega)]
    · rw [if_neg e]
      show _ = sb_b (if j < l then y j else byt x k)
      rw [if_pos (by omega)]
      exact h.2 j (by omega)
theorem c_addNumber {S : RSt} {l : Nat} {y : Nat → Nat} {x : Int32} (h : cT S l y) (hl : l + 4 ≤ 540) : ∃ S', fX3_addNumber x S = some S' ∧ cT S' (l + 4) (y4 l y x) ∧ fT S S' := by
  obtain ⟨Sa, e1, h1, f1⟩ := c_byte (n := 999) (x := x) (k := 24) h (by omega) (by omega)
  obtain ⟨Sb, e2, h2, f2⟩ := c_byte (n := 998) (x := x) (k := 16) h1 (by omega) (by omega)
  obtain ⟨Sc, e3, h3, f3⟩ := c_byte (n := 997) (x := x) (k := 8) h2 (by omega) (by omega)
  obtain ⟨Sd, e4, h4, f4⟩ := c_byte (n := 996) (x := x) (k := 0) h3 (by omega) (by omega)
  refine ⟨Sd, ?_, ⟨h4.1, fun k hk => ?_⟩, fr_tr (fr_tr (fr_tr f1 f2) f3) f4⟩
  · have e1 : fX3_addNumber_L3 1000 x (24 : Int32) S = fX3_addNumber_L3 999 x (16 : Int32) Sa := e1
    have e2 : fX3_addNumber_L3 999 x (16 : Int32) Sa = fX3_addNumber_L3 998 x (8 : Int32) Sb := e2
    have e3 : fX3_addNumber_L3 998 x (8 : Int32) Sb = fX3_addNumber_L3 997 x (0 : Int32) Sc := e3
    have e4 : fX3_addNumber_L3 997 x (0 : Int32) Sc = fX3_addNumber_L3 996 x (-8 : Int32) Sd := e4
    have e5 : fX3_addNumber_L3 996 x (-8 : Int32) Sd = some Sd := by
      rw [show (996 : Nat) = 995 + 1 from rfl, fX3_addNumber_L3, if_pos (by decide)]
    unfold fX3_addNumber
    rw [e1, e2, e3, e4, e5, ob_1t rfl]
  · rw [h4.2 k hk]
    unfold y4
    show sb_b (if k < l + 1 + 1 + 1 then (if k < l + 1 + 1 then (if k < l + 1 then (if k < l then y k else byt x 24) else byt x 16) else byt x 8) else byt x 0) = _
    by_cases c1 : k < l
    · rw [if_pos (by omega), if_pos (by omega), if_pos (by omega), if_pos c1, if_pos c1]
    · by_cases c2 : k = l
      · rw [if_pos (by omega), if_pos (by omega), if_pos (by omega), if_neg c1, if_neg c1, if_pos c2]
      · by_cases c3 : k = l + 1
        · rw [if_pos (by omega), if_pos (by omega), if_neg (by omega), if_neg c1, if_neg c2, if_pos c3]
        · by_cases c4 : k = l + 2
          · rw [if_pos (by omega), if_neg (by omega), if_neg c1, if_neg c2, if_neg c3, if_pos c4]
          · rw [if_neg (by omega), if_neg c1, if_neg c2, if_neg c3, if_neg c4]
theorem m_byte {S : RSt} {l k n : Nat} {y : Nat → Nat} {x : Int32} (h : mT' S l y) (hl : l < 540) (hk : k ≤ 24) : ∃ S', fX5_lays_L3 (n + 1) x (nI k) S = fX5_lays_L3 n x (nI k + (-8 : Int32)) S' ∧ mT' S' (l + 1) (fun j => if j < l then y j else byt x k) ∧ fM S S' := by
  refine ⟨st_si (st_sa S 0 l (nI (byt x k))) 1 (nI (l + 1)), ?_, ⟨st_i_eq, fun j hj => ?_⟩, fr_tr (fr_sa rfl) (fr_si rfl)⟩
  · rw [fX5_lays_L3, if_neg (nI_pos (by omega)), h.1, ob_in_t (vp_in_nI hl (by decide)), nI_clamp (by omega), byt_m x (by omega), st_i_sa, h.1, nI_1]
  · rw [st_a_si, st_a_eq]
    unfold upd
    by_cases e : j = l
    · rw [if_pos e]
      show nI (byt x k) = nI (if j < l then y j else byt x k)
      rw [if_neg (by omega)]
    · rw [if_neg e]
      show _ = nI (if j < l then y j else byt x k)
      rw [if_pos (by omega)]
      exact h.2 j (by omega)
theorem m_lays {S : RSt} {l : Nat} {y : Nat → Nat} {x : Int32} (h : mT' S l y) (hl : l + 4 ≤ 540) : ∃ S', fX5_lays x S = some S' ∧ mT' S' (l + 4) (y4 l y x) ∧ fM S S' := by
  obtain ⟨Sa, e1, h1, f1⟩ := m_byte (n := 999) (x := x) (k := 24) h (by omega) (by omega)
  obtain ⟨Sb, e2, h2, f2⟩ := m_byte (n := 998) (x := x) (k := 16) h1 (by omega) (by omega)
  obtain ⟨Sc, e3, h3, f3⟩ := m_byte (n := 997) (x := x) (k := 8) h2 (by omega) (by omega)
  obtain ⟨Sd, e4, h4, f4⟩ := m_byte (n := 996) (x := x) (k := 0) h3 (by omega) (by omega)
  refine ⟨Sd, ?_, ⟨h4.1, fun k hk => ?_⟩, fr_tr (fr_tr (fr_tr f1 f2) f3) f4⟩
  · have e1 : fX5_lays_L3 1000 x (24 : Int32) S = fX5_lays_L3 999 x (16 : Int32) Sa := e1
    have e2 : fX5_lays_L3 999 x (16 : Int32) Sa = fX5_lays_L3 998 x (8 : Int32) Sb := e2
    have e3 : fX5_lays_L3 998 x (8 : Int32) Sb = fX5_lays_L3 997 x (0 : Int32) Sc := e3
    have e4 : fX5_lays_L3 997 x (0 : Int32) Sc = fX5_lays_L3 996 x (-8 : Int32) Sd := e4
    have e5 : fX5_lays_L3 996 x (-8 : Int32) Sd = some Sd := by
      rw [show (996 : Nat) = 995 + 1 from rfl, fX5_lays_L3, if_pos (by decide)]
    unfold fX5_lays
    rw [e1, e2, e3, e4, e5, ob_1t rfl]
  · rw [h4.2 k hk]
    unfold y4
    show nI (if k < l + 1 + 1 + 1 then (if k < l + 1 + 1 then (if k < l + 1 then (if k < l then y k else byt x 24) else byt x 16) else byt x 8) else byt x 0) = _
    by_cases c1 : k < l
    · rw [if_pos (by omega), if_pos (by omega), if_pos (by omega), if_pos c1, if_pos c1]
    · by_cases c2 : k = l
      · rw [if_pos (by omega), if_pos (by omega), if_pos (by omega), if_neg c1, if_neg c1, if_pos c2]
      · by_cases c3 : k = l + 1
        · rw [if_pos (by omega), if_pos (by omega), if_neg (by omega), if_neg c1, if_neg c2, if_pos c3]
        · by_cases c4 : k = l + 2
          · rw [if_pos (by omega), if_neg (by omega), if_neg c1, if_neg c2, if_neg c3, if_pos c4]
          · rw [if_neg (by omega), if_neg c1, if_neg c2, if_neg c3, if_neg c4]
theorem y4_lt {l : Nat} {y : Nat → Nat} {x : Int32} (h : ∀ k, y k < 256) : ∀ k, y4 l y x k < 256 := by
  intro k
  unfold y4
  split
  · exact h k
  · split
    · exact byt_lt _ _
    · split
      · exact byt_lt _ _
      · split <;> exact byt_lt _ _
theorem J_feed {S1 S2 : RSt} {σ : AS} (I : cI S1 σ) (M : mI S2 σ) (a b c d e : Int32) : jn S1 σ (fX4_feed a b c d e S1) (fX5_feed a b c d e S2) := by
  have M0 := mI_t M 0
  obtain ⟨t1, t2, t3, t4, t5, t6⟩ := I.2.2
  have i20 : nI (as_l σ) + (20 : Int32) = nI (as_l σ + 20) := nI_add _ 20
  by_cases q : as_l σ + 20 ≤ 540
  · obtain ⟨A1, e1, h1, f1⟩ := c_addNumber (x := a) (S := S1) (l := as_l σ) (y := as_y σ) ⟨t2, t4⟩ (by omega)
    obtain ⟨A2, e2, h2, f2⟩ := c_addNumber (x := b) h1 (by omega)
    obtain ⟨A3, e3, h3, f3⟩ := c_addNumber (x := c) h2 (by omega)
    obtain ⟨A4, e4, h4, f4⟩ := c_addNumber (x := d) h3 (by omega)
    obtain ⟨A5, e5, h5, f5⟩ := c_addNumber (x := e) h4 (by omega)
    have F : fT S1 A5 := fr_tr (fr_tr (fr_tr (fr_tr f1 f2) f3) f4) f5
    obtain ⟨B1, g1, k1, p1⟩ := m_lays (x := a) (S := st_si S2 0 0) (l := as_l σ) (y := as_y σ) ⟨M0.2.2.1, M0.2.2.2.1⟩ (by omega)
    obtain ⟨B2, g2, k2, p2⟩ := m_lays (x := b) k1 (by omega)
    obtain ⟨B3, g3, k3, p3⟩ := m_lays (x := c) k2 (by omega)
    obtain ⟨B4, g4, k4, p4⟩ := m_lays (x := d) k3 (by omega)
    obtain ⟨B5, g5, k5, p5⟩ := m_lays (x := e) k4 (by omega)
    have G : fM (st_si S2 0 0) B5 := fr_tr (fr_tr (fr_tr (fr_tr p1 p2) p3) p4) p5
    refine ⟨nI (as_l σ + 20), A5, B5, (σ.1, σ.2.1, (as_l σ + 20, y4 (as_l σ + 4 + 4 + 4 + 4) (y4 (as_l σ + 4 + 4 + 4) (y4 (as_l σ + 4 + 4) (y4 (as_l σ + 4) (y4 (as_l σ) (as_y σ) a) b) c) d) e), σ.2.2.2), ?_, ?_, ⟨⟨cB_fr I.1.1 F (by omega) (by omega) (by omega) (by omega) (by omega), I.1.2⟩, hR_fr I.2.1 F (by omega) (by omega) (by omega) (by omega), ⟨q, h5.1, y4_lt (y4_lt (y4_lt (y4_lt (y4_lt t3)))), h5.2, t5, by rw [F.1 46 (by omega)]; exact t6⟩⟩, ⟨mB_fr M0.1 G (by omega), mH_fr M0.2.1 G (by omega) (by omega), ⟨k5.1, k5.2, by rw [G.1 7 (by omega)]; exact M0.2.2.2.2⟩⟩, Or.inr ⟨fr_mo F (fun k z => by omega) (fun _ z => z.elim) (fun k z => by omega) (fun _ z => z.elim), rfl⟩⟩
    · unfold fX4_feed
      rw [show (20 : Int32) = nI 20 from rfl, ob_2t (c_room t2 q), if_neg ne0, ob_1t e1, ob_1t e2, ob_1t e3, ob_1t e4, ob_1t e5, h5.1]
    · unfold fX5_feed
      rw [M0.2.2.1, i20, if_pos (show nI (as_l σ + 20) ≤ (540 : Int32) from nI_le (b := 540) q (by decide)), ob_1t g1, ob_1t g2, ob_1t g3, ob_1t g4, ob_1t g5, k5.1]
  · refine ⟨-1, S1, st_si S2 0 0, σ, ?_, ?_, I, M0, fok_rf⟩
    · unfold fX4_feed
      rw [show (20 : Int32) = nI 20 from rfl, ob_2t (c_room0 t2 (by omega) (by omega)), if_pos rfl]
    · unfold fX5_feed
      rw [M0.2.2.1, i20, if_neg (show ¬ nI (as_l σ + 20) ≤ (540 : Int32) from nI_ge (a := 540) (by omega) (by omega))]
