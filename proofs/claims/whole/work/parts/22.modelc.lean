def fX5_isMonth (x1 : Int32) (S : RSt) : Option (Int32 × RSt) := (ob_in (0 : Int32) 58 (ob_2 (fX5_isIn x1 (0 : Int32) ((st_a S 1 (0 : Int32).toNatClampNeg) - (1 : Int32)) S) fun r_3 S_4 => (some (r_3, S_4))))
abbrev rmX5_isMonth : Room := { frames := 1, cells := 0, slots := 0, locals := 22 }
theorem nf_X5_isMonth_f70 : Cond.fieldLink RX5 70 "RepeatIndexModel" "now" "[I" ∈ wsX5_isMonth := by decide +kernel
theorem ni_X5_isMonth_X5 : ∀ w ∈ u_ws RX5 TX5 31, w ∈ wsX5_isMonth := by decide +kernel
set_option maxHeartbeats 4000000 in
set_option maxRecDepth 100000 in
theorem kX5_isMonth {l : Launch} {D : va_G} {cy : Nat → ClassId} {ad : Nat → Nat} {E : ke_T} (hEE : km_E E) {x1 : Int32} {S : RSt} {r : Int32} {S' : RSt} (h : fX5_isMonth x1 S = some (r, S')) : km_z l D (mw_t cy) (mw_w cy ad) E yX5_isMonth wsX5_isMonth rmX5_isMonth [.ref (ad 0), .int x1] S r S' := by
  refine km_z_in (cc := cX5_isMonth) (nL := 2) hEE (by decide) rfl (Nat.le_of_ble_eq_true rfl) ?_
  intro p e s m below meth c A H ls C hP hD hS hl
  have C : km_C p s m _ meth c cX5_isMonth 2 RX5 wsX5_isMonth (some .boolean) D (mw_t cy) E A := C
  obtain ⟨⟨hx, hb, hml, hown, hts⟩, hr, hlk, hK, hA, hE, hEE⟩ := id C
  have hl : lv_has ls 2 [(0, .ref (ad 0)), (1, .int x1)] := hl
  unfold fX5_isMonth at h
  refine lv_iload_n hx hb dX5_isMonth_0 rfl (lv_at hl 1 rfl) ?_
  refine lv_iconst (v := 0) hx hb dX5_isMonth_1 (by decide) ?_
  refine lv_aload_n hx hb dX5_isMonth_2 rfl (lv_at hl 0 rfl) ?_
  refine va_get (D := D) (ci := 5) (v := .ref (ad 2)) (C := RX5) (T := TX5) (N := 31) hx hb hts ni_X5_isMonth_X5 hown hK hP 0 mw_M rfl 11 (by decide) (hts _ nf_X5_isMonth_f70) (fun _ h9 => h9) rfl dX5_isMonth_3 ?_
  refine lv_iconst (v := 0) hx hb dX5_isMonth_6 (by decide) ?_
  obtain ⟨hv_1, h⟩ := ob_in_s h
  refine va_iald hx hb hK hP 2 0 mw_now rfl hv_1 dX5_isMonth_7 ?_
  refine lv_iconst (v := 1) hx hb dX5_isMonth_8 (by decide) ?_
  refine lv_isub hx hb dX5_isMonth_9 ?_
  obtain ⟨r_3, S_4, hc_2, h⟩ := ob_2s h
  refine km_cSz (As := [.int x1, .int (0 : Int32), .int ((st_a S 1 (0 : Int32).toNatClampNeg) - (1 : Int32))]) (rest := []) C (kX5_isIn hEE hc_2) (va_cwS 3 hts gX5_isMonth_X5_isIn rfl rfl rfl (by decide +kernel) ⟨(Nat.le_of_ble_eq_true rfl), (Nat.le_of_ble_eq_true rfl)⟩) rfl hP hD hS hl.1 rfl (Nat.le_of_ble_eq_true rfl) dX5_isMonth_10 (fun H locs hP hD hS hz_5 => ?_)
  obtain ⟨rfl, rfl⟩ := ob_w h
  exact km_zret C hz_5 hP hD hS dX5_isMonth_13
def fX5_isHome (x1 : Int32) (S : RSt) : Option (Int32 × RSt) := (ob_in (1 : Int32) 58 (ob_2 (fX5_isIn x1 (0 : Int32) ((st_a S 1 (1 : Int32).toNatClampNeg) - (1 : Int32)) S) fun r_3 S_4 => (some (r_3, S_4))))
abbrev rmX5_isHome : Room := { frames := 1, cells := 0, slots := 0, locals := 22 }
theorem nf_X5_isHome_f70 : Cond.fieldLink RX5 70 "RepeatIndexModel" "now" "[I" ∈ wsX5_isHome := by decide +kernel
theorem ni_X5_isHome_X5 : ∀ w ∈ u_ws RX5 TX5 31, w ∈ wsX5_isHome := by decide +kernel
set_option maxHeartbeats 4000000 in
set_option maxRecDepth 100000 in
theorem kX5_isHome {l : Launch} {D : va_G} {cy : Nat → ClassId} {ad : Nat → Nat} {E : ke_T} (hEE : km_E E) {x1 : Int32} {S : RSt} {r : Int32} {S' : RSt} (h : fX5_isHome x1 S = some (r, S')) : km_z l D (mw_t cy) (mw_w cy ad) E yX5_isHome wsX5_isHome rmX5_isHome [.ref (ad 0), .int x1] S r S' := by
  refine km_z_in (cc := cX5_isHome) (nL := 2) hEE (by decide) rfl (Nat.le_of_ble_eq_true rfl) ?_
  intro p e s m below meth c A H ls C hP hD hS hl
  have C : km_C p s m _ meth c cX5_isHome 2 RX5 wsX5_isHome (some .boolean) D (mw_t cy) E A := C
  obtain ⟨⟨hx, hb, hml, hown, hts⟩, hr, hlk, hK, hA, hE, hEE⟩ := id C
  have hl : lv_has ls 2 [(0, .ref (ad 0)), (1, .int x1)] := hl
  unfold fX5_isHome at h
  refine lv_iload_n hx hb dX5_isHome_0 rfl (lv_at hl 1 rfl) ?_
  refine lv_iconst (v := 0) hx hb dX5_isHome_1 (by decide) ?_
  refine lv_aload_n hx hb dX5_isHome_2 rfl (lv_at hl 0 rfl) ?_
  refine va_get (D := D) (ci := 5) (v := .ref (ad 2)) (C := RX5) (T := TX5) (N := 31) hx hb hts ni_X5_isHome_X5 hown hK hP 0 mw_M rfl 11 (by decide) (hts _ nf_X5_isHome_f70) (fun _ h9 => h9) rfl dX5_isHome_3 ?_
  refine lv_iconst (v := 1) hx hb dX5_isHome_6 (by decide) ?_
  obtain ⟨hv_1, h⟩ := ob_in_s h
  refine va_iald hx hb hK hP 2 0 mw_now rfl hv_1 dX5_isHome_7 ?_
  refine lv_iconst (v := 1) hx hb dX5_isHome_8 (by decide) ?_
  refine lv_isub hx hb dX5_isHome_9 ?_
  obtain ⟨r_3, S_4, hc_2, h⟩ := ob_2s h
  refine km_cSz (As := [.int x1, .int (0 : Int32), .int ((st_a S 1 (1 : Int32).toNatClampNeg) - (1 : Int32))]) (rest := []) C (kX5_isIn hEE hc_2) (va_cwS 3 hts gX5_isHome_X5_isIn rfl rfl rfl (by decide +kernel) ⟨(Nat.le_of_ble_eq_true rfl), (Nat.le_of_ble_eq_true rfl)⟩) rfl hP hD hS hl.1 rfl (Nat.le_of_ble_eq_true rfl) dX5_isHome_10 (fun H locs hP hD hS hz_5 => ?_)
  obtain ⟨rfl, rfl⟩ := ob_w h
  exact km_zret C hz_5 hP hD hS dX5_isHome_13
def fX5_at (x0 : Int32) (x1 : Int32) (S : RSt) : Option (Int32 × RSt) := (some (((10 : Int32) + ((8 : Int32) * x0)) + x1, S))
abbrev rmX5_at : Room := { frames := 0, cells := 0, slots := 0, locals := 0 }
set_option maxHeartbeats 4000000 in
set_option maxRecDepth 100000 in
theorem kX5_at {l : Launch} {D : va_G} {cy : Nat → ClassId} {ad : Nat → Nat} {E : ke_T} (hEE : km_E E) {x0 : Int32} {x1 : Int32} {S : RSt} {r : Int32} {S' : RSt} (h : fX5_at x0 x1 S = some (r, S')) : km_i l D (mw_t cy) (mw_w cy ad) E yX5_at wsX5_at rmX5_at [.int x0, .int x1] S r S' := by
  refine km_i_in (cc := cX5_at) (nL := 2) hEE (by decide) rfl (Nat.le_of_ble_eq_true rfl) ?_
  intro p e s m below meth c A H ls C hP hD hS hl
  have C : km_C p s m _ meth c cX5_at 2 RX5 wsX5_at (some .int) D (mw_t cy) E A := C
  obtain ⟨⟨hx, hb, hml, hown, hts⟩, hr, hlk, hK, hA, hE, hEE⟩ := id C
  have hl : lv_has ls 2 [(0, .int x0), (1, .int x1)] := hl
  unfold fX5_at at h
  refine lv_bipush (v := 10) hx hb dX5_at_0 (by decide) ?_
  refine lv_bipush (v := 8) hx hb dX5_at_2 (by decide) ?_
  refine lv_iload_n hx hb dX5_at_4 rfl (lv_at hl 0 rfl) ?_
  refine lv_imul hx hb dX5_at_5 ?_
  refine lv_iadd hx hb dX5_at_6 ?_
  refine lv_iload_n hx hb dX5_at_7 rfl (lv_at hl 1 rfl) ?_
  refine lv_iadd hx hb dX5_at_8 ?_
  obtain ⟨rfl, rfl⟩ := ob_w h
  exact km_iret C hP hD hS dX5_at_9
def fX5_isSold (x1 : Int32) (x2 : Int32) (S : RSt) : Option (Int32 × RSt) := (ob_2 (fX5_at x1 x2 S) fun r_2 S_3 => (ob_in r_2 58 (if (st_a S_3 1 r_2.toNatClampNeg) ≤ 0 then (some ((0 : Int32), S_3)) else (some ((1 : Int32), S_3)))))
abbrev rmX5_isSold : Room := { frames := 1, cells := 0, slots := 0, locals := 21 }
theorem nf_X5_isSold_f70 : Cond.fieldLink RX5 70 "RepeatIndexModel" "now" "[I" ∈ wsX5_isSold := by decide +kernel
theorem ni_X5_isSold_X5 : ∀ w ∈ u_ws RX5 TX5 31, w ∈ wsX5_isSold := by decide +kernel
set_option maxHeartbeats 4000000 in
set_option maxRecDepth 100000 in
theorem kX5_isSold {l : Launch} {D : va_G} {cy : Nat → ClassId} {ad : Nat → Nat} {E : ke_T} (hEE : km_E E) {x1 : Int32} {x2 : Int32} {S : RSt} {r : Int32} {S' : RSt} (h : fX5_isSold x1 x2 S = some (r, S')) : km_z l D (mw_t cy) (mw_w cy ad) E yX5_isSold wsX5_isSold rmX5_isSold [.ref (ad 0), .int x1, .int x2] S r S' := by
  refine km_z_in (cc := cX5_isSold) (nL := 3) hEE (by decide) rfl (Nat.le_of_ble_eq_true rfl) ?_
  intro p e s m below meth c A H ls C hP hD hS hl
  have C : km_C p s m _ meth c cX5_isSold 3 RX5 wsX5_isSold (some .boolean) D (mw_t cy) E A := C
  obtain ⟨⟨hx, hb, hml, hown, hts⟩, hr, hlk, hK, hA, hE, hEE⟩ := id C
  have hl : lv_has ls 3 [(0, .ref (ad 0)), (1, .int x1), (2, .int x2)] := hl
  unfold fX5_isSold at h
  refine lv_aload_n hx hb dX5_isSold_0 rfl (lv_at hl 0 rfl) ?_
  refine va_get (D := D) (ci := 5) (v := .ref (ad 2)) (C := RX5) (T := TX5) (N := 31) hx hb hts ni_X5_isSold_X5 hown hK hP 0 mw_M rfl 11 (by decide) (hts _ nf_X5_isSold_f70) (fun _ h9 => h9) rfl dX5_isSold_1 ?_
  refine lv_iload_n hx hb dX5_isSold_4 rfl (lv_at hl 1 rfl) ?_
  refine lv_iload_n hx hb dX5_isSold_5 rfl (lv_at hl 2 rfl) ?_
  obtain ⟨r_2, S_3, hc_1, h⟩ := ob_2s h
  refine km_cSi (As := [.int x1, .int x2]) (rest := [.ref (ad 2)]) C (kX5_at hEE hc_1) (va_cwS 2 hts gX5_isSold_X5_at rfl rfl rfl (by decide +kernel) ⟨(Nat.le_of_ble_eq_true rfl), (Nat.le_of_ble_eq_true rfl)⟩) rfl hP hD hS hl.1 rfl (Nat.le_of_ble_eq_true rfl) dX5_isSold_6 (fun H locs hP hD hS => ?_)
  obtain ⟨hv_4, h⟩ := ob_in_s h
  refine va_iald hx hb hK hP 2 0 mw_now rfl hv_4 dX5_isSold_9 ?_
  refine lv_if_le (tgt := 17) hx hb dX5_isSold_10 (by decide) (fun c_5 => ?_) (fun c_5 => ?_)
  · have h := ob_t c_5 h
    refine lv_iconst (v := 0) hx hb dX5_isSold_17 (by decide) ?_
    obtain ⟨rfl, rfl⟩ := ob_w h
    exact km_zret C (by decide) hP hD hS dX5_isSold_18
  · have h := ob_f c_5 h
    refine lv_iconst (v := 1) hx hb dX5_isSold_13 (by decide) ?_
    refine lv_goto (tgt := 18) hx hb dX5_isSold_14 (by decide) ?_
    obtain ⟨rfl, rfl⟩ := ob_w h
    exact km_zret C (by decide) hP hD hS dX5_isSold_18
def fX5_levelOf (x1 : Int32) (x2 : Int32) (S : RSt) : Option (Int32 × RSt) := (ob_2 (fX5_at x1 x2 S) fun r_2 S_3 => (ob_in r_2 58 (some ((st_a S_3 1 r_2.toNatClampNeg) - (1 : Int32), S_3))))
abbrev rmX5_levelOf : Room := { frames := 1, cells := 0, slots := 0, locals := 21 }
theorem nf_X5_levelOf_f70 : Cond.fieldLink RX5 70 "RepeatIndexModel" "now" "[I" ∈ wsX5_levelOf := by decide +kernel
theorem ni_X5_levelOf_X5 : ∀ w ∈ u_ws RX5 TX5 31, w ∈ wsX5_levelOf := by decide +kernel
set_option maxHeartbeats 4000000 in
set_option maxRecDepth 100000 in
theorem kX5_levelOf {l : Launch} {D : va_G} {cy : Nat → ClassId} {ad : Nat → Nat} {E : ke_T} (hEE : km_E E) {x1 : Int32} {x2 : Int32} {S : RSt} {r : Int32} {S' : RSt} (h : fX5_levelOf x1 x2 S = some (r, S')) : km_i l D (mw_t cy) (mw_w cy ad) E yX5_levelOf wsX5_levelOf rmX5_levelOf [.ref (ad 0), .int x1, .int x2] S r S' := by
  refine km_i_in (cc := cX5_levelOf) (nL := 3) hEE (by decide) rfl (Nat.le_of_ble_eq_true rfl) ?_
  intro p e s m below meth c A H ls C hP hD hS hl
  have C : km_C p s m _ meth c cX5_levelOf 3 RX5 wsX5_levelOf (some .int) D (mw_t cy) E A := C
  obtain ⟨⟨hx, hb, hml, hown, hts⟩, hr, hlk, hK, hA, hE, hEE⟩ := id C
  have hl : lv_has ls 3 [(0, .ref (ad 0)), (1, .int x1), (2, .int x2)] := hl
  unfold fX5_levelOf at h
  refine lv_aload_n hx hb dX5_levelOf_0 rfl (lv_at hl 0 rfl) ?_
  refine va_get (D := D) (ci := 5) (v := .ref (ad 2)) (C := RX5) (T := TX5) (N := 31) hx hb hts ni_X5_levelOf_X5 hown hK hP 0 mw_M rfl 11 (by decide) (hts _ nf_X5_levelOf_f70) (fun _ h9 => h9) rfl dX5_levelOf_1 ?_
  refine lv_iload_n hx hb dX5_levelOf_4 rfl (lv_at hl 1 rfl) ?_
  refine lv_iload_n hx hb dX5_levelOf_5 rfl (lv_at hl 2 rfl) ?_
  obtain ⟨r_2, S_3, hc_1, h⟩ := ob_2s h
  refine km_cSi (As := [.int x1, .int x2]) (rest := [.ref (ad 2)]) C (kX5_at hEE hc_1) (va_cwS 2 hts gX5_levelOf_X5_at rfl rfl rfl (by decide +kernel) ⟨(Nat.le_of_ble_eq_true rfl), (Nat.le_of_ble_eq_true rfl)⟩) rfl hP hD hS hl.1 rfl (Nat.le_of_ble_eq_true rfl) dX5_levelOf_6 (fun H locs hP hD hS => ?_)
  obtain ⟨hv_4, h⟩ := ob_in_s h
  refine va_iald hx hb hK hP 2 0 mw_now rfl hv_4 dX5_levelOf_9 ?_
  refine lv_iconst (v := 1) hx hb dX5_levelOf_10 (by decide) ?_
  refine lv_isub hx hb dX5_levelOf_11 ?_
  obtain ⟨rfl, rfl⟩ := ob_w h
  exact km_iret C hP hD hS dX5_levelOf_12
def fX5_salesOf_L4 : Nat → Int32 → Int32 → Int32 → RSt → Option (Int32 × RSt)
  | 0, _, _, _, _ => none
  | n + 1, x1, x2, x3, S => (if (8 : Int32) ≤ x3 then (some (x2, S)) else (ob_2 (fX5_isSold x1 x3 S) fun r_3 S_4 => (if r_3 = 0 then (fX5_salesOf_L4 n x1 x2 (x3 + (1 : Int32)) S_4) else (fX5_salesOf_L4 n x1 (x2 + (1 : Int32)) (x3 + (1 : Int32)) S_4))))
def fX5_salesOf (x1 : Int32) (S : RSt) : Option (Int32 × RSt) := (ob_2 (fX5_salesOf_L4 1000 x1 (0 : Int32) (0 : Int32) S) fun o_9 S_8 => (some (o_9, S_8)))
abbrev rmX5_salesOf : Room := { frames := 2, cells := 0, slots := 0, locals := 43 }
set_option maxHeartbeats 4000000 in
set_option maxRecDepth 100000 in
theorem kX5_salesOf_L4 {l : Launch} {D : va_G} {cy : Nat → ClassId} {ad : Nat → Nat} {E : ke_T} {p : Program} {e : Env} {s : State} {m : MethodId} {args : Array Value} {below : List Frame} {meth : Method} {c : Code} {A : Nat → Prop} {Q : State → Prop} (C : km_C p s m args meth c cX5_salesOf 4 RX5 wsX5_salesOf (some .int) D (mw_t cy) E A) : ∀ (n : Nat) (x1 : Int32) (x2 : Int32) (x3 : Int32) (S : RSt) (o2 : Int32) (S' : RSt) (h : fX5_salesOf_L4 n x1 x2 x3 S = some (o2, S')) {H : Heap} {locs : List Loc} {ls : Array Slot} (hP : va_P D vwCl ((mw_w cy ad) S) H) (hD : va_D A ((mw_w cy ad) S)) (hS : va_S A s.heap H locs) (hl : lv_has ls 4 [(0, .ref (ad 0)), (1, .int x1), (2, .int x2), (3, .int x3)]) (kx0 : ∀ (H : Heap) (locs : List Loc) (ls : Array Slot), va_P D vwCl ((mw_w cy ad) S') H → va_D A ((mw_w cy ad) S') → va_S A s.heap H locs → lv_has ls 4 [(2, .int o2)] → W p l e rmX5_salesOf s m args below meth c H locs 0 0 Q (F0 m 28 ls [])), W p l e rmX5_salesOf s m args below meth c H locs 0 0 Q (F0 m 4 ls []) := by
  obtain ⟨⟨hx, hb, hml, hown, hts⟩, hr, hlk, hK, hA, hE, hEE⟩ := id C
  intro n
  induction n with
  | zero =>
    intro x1 x2 x3 S o2 S' h
    rw [fX5_salesOf_L4] at h
    cases h
  | succ n ih =>
    intro x1 x2 x3 S o2 S' h H locs ls hP hD hS hl kx0
    rw [fX5_salesOf_L4] at h
    refine lv_iload_n hx hb dX5_salesOf_4 rfl (lv_at hl 3 rfl) ?_
    refine lv_bipush (v := 8) hx hb dX5_salesOf_5 (by decide) ?_
    refine lv_icmp_ge (tgt := 28) hx hb dX5_salesOf_7 (by decide) (fun c_1 => ?_) (fun c_1 => ?_)
    · have h := ob_t c_1 h
      cases h
      exact kx0 _ _ _ hP hD hS (lv_sub hl [2] rfl)
    · have h := ob_f c_1 h
      refine lv_aload_n hx hb dX5_salesOf_10 rfl (lv_at hl 0 rfl) ?_
      refine lv_iload_n hx hb dX5_salesOf_11 rfl (lv_at hl 1 rfl) ?_
      refine lv_iload_n hx hb dX5_salesOf_12 rfl (lv_at hl 3 rfl) ?_
      obtain ⟨r_3, S_4, hc_2, h⟩ := ob_2s h
      refine km_cVz (As := [.int x1, .int x3]) (rest := []) C (kX5_isSold hEE hc_2) (cwV 2 hts gX5_salesOf_X5_isSold rfl rfl rfl (by decide +kernel) ⟨(Nat.le_of_ble_eq_true rfl), (Nat.le_of_ble_eq_true rfl)⟩) mw_M rfl rfl rfl hP hD hS hl.1 rfl (Nat.le_of_ble_eq_true rfl) dX5_salesOf_13 (fun H locs hP hD hS hz_5 => ?_)
      refine lv_if_eq (tgt := 22) hx hb dX5_salesOf_16 (by decide) (fun c_6 => ?_) (fun c_6 => ?_)
      · have h := ob_t c_6 h
        refine lv_iinc (v := x3 + (1 : Int32)) (lv' := [(3, .int (x3 + (1 : Int32))), (0, .ref (ad 0)), (1, .int x1), (2, .int x2)]) hx hb dX5_salesOf_22 hl (k := 3) rfl (congrArg (fun z => x3 + z) (by decide)) (by decide) rfl (fun ls hl => ?_)
        refine lv_goto (tgt := 4) hx hb dX5_salesOf_25 (by decide) ?_
        exact ih _ _ _ _ _ _ h hP hD hS (lv_sub hl [1, 2, 3, 0] rfl) kx0
      · have h := ob_f c_6 h
        refine lv_iinc (v := x2 + (1 : Int32)) (lv' := [(2, .int (x2 + (1 : Int32))), (0, .ref (ad 0)), (1, .int x1), (3, .int x3)]) hx hb dX5_salesOf_19 hl (k := 2) rfl (congrArg (fun z => x2 + z) (by decide)) (by decide) rfl (fun ls hl => ?_)
        refine lv_iinc (v := x3 + (1 : Int32)) (lv' := [(3, .int (x3 + (1 : Int32))), (2, .int (x2 + (1 : Int32))), (0, .ref (ad 0)), (1, .int x1)]) hx hb dX5_salesOf_22 hl (k := 3) rfl (congrArg (fun z => x3 + z) (by decide)) (by decide) rfl (fun ls hl => ?_)
        refine lv_goto (tgt := 4) hx hb dX5_salesOf_25 (by decide) ?_
        exact ih _ _ _ _ _ _ h hP hD hS (lv_sub hl [2, 3, 1, 0] rfl) kx0
set_option maxHeartbeats 4000000 in
set_option maxRecDepth 100000 in
theorem kX5_salesOf {l : Launch} {D : va_G} {cy : Nat → ClassId} {ad : Nat → Nat} {E : ke_T} (hEE : km_E E) {x1 : Int32} {S : RSt} {r : Int32} {S' : RSt} (h : fX5_salesOf x1 S = some (r, S')) : km_i l D (mw_t cy) (mw_w cy ad) E yX5_salesOf wsX5_salesOf rmX5_salesOf [.ref (ad 0), .int x1] S r S' := by
  refine km_i_in (cc := cX5_salesOf) (nL := 4) hEE (by decide) rfl (Nat.le_of_ble_eq_true rfl) ?_
  intro p e s m below meth c A H ls C hP hD hS hl
  have C : km_C p s m _ meth c cX5_salesOf 4 RX5 wsX5_salesOf (some .int) D (mw_t cy) E A := C
  obtain ⟨⟨hx, hb, hml, hown, hts⟩, hr, hlk, hK, hA, hE, hEE⟩ := id C
  have hl : lv_has ls 4 [(0, .ref (ad 0)), (1, .int x1)] := hl
  unfold fX5_salesOf at h
  refine lv_iconst (v := 0) hx hb dX5_salesOf_0 (by decide) ?_
  refine lv_istore_n (lv' := [(2, .int (0 : Int32)), (0, .ref (ad 0)), (1, .int x1)]) hx hb dX5_salesOf_1 rfl hl (by decide) rfl (fun ls hl => ?_)
  refine lv_iconst (v := 0) hx hb dX5_salesOf_2 (by decide) ?_
  refine lv_istore_n (lv' := [(3, .int (0 : Int32)), (2, .int (0 : Int32)), (0, .ref (ad 0)), (1, .int x1)]) hx hb dX5_salesOf_3 rfl hl (by decide) rfl (fun ls hl => ?_)
  obtain ⟨o_9, S_8, hq_7, h⟩ := ob_2s h
  refine kX5_salesOf_L4  C _ _ _ _ _ _ _ hq_7 hP hD hS (lv_sub hl [2, 3, 1, 0] rfl) (fun H locs ls hP hD hS hl => ?_)
  refine lv_iload_n hx hb dX5_salesOf_28 rfl (lv_at hl 0 rfl) ?_
  obtain ⟨rfl, rfl⟩ := ob_w h
  exact km_iret C hP hD hS dX5_salesOf_29
def fX5_sales_L4 : Nat → Int32 → Int32 → RSt → Option (Int32 × RSt)
  | 0, _, _, _ => none
  | n + 1, x1, x2, S => (ob_in (1 : Int32) 58 (if (st_a S 1 (1 : Int32).toNatClampNeg) ≤ x2 then (some (x1, S)) else (ob_2 (fX5_salesOf x2 S) fun r_4 S_5 => (fX5_sales_L4 n (x1 + r_4) (x2 + (1 : Int32)) S_5))))
def fX5_sales (S : RSt) : Option (Int32 × RSt) := (ob_2 (fX5_sales_L4 1000 (0 : Int32) (0 : Int32) S) fun o_8 S_7 => (some (o_8, S_7)))
abbrev rmX5_sales : Room := { frames := 3, cells := 0, slots := 0, locals := 66 }
theorem nf_X5_sales_f70 : Cond.fieldLink RX5 70 "RepeatIndexModel" "now" "[I" ∈ wsX5_sales := by decide +kernel
theorem ni_X5_sales_X5 : ∀ w ∈ u_ws RX5 TX5 31, w ∈ wsX5_sales := by decide +kernel
set_option maxHeartbeats 4000000 in
set_option maxRecDepth 100000 in
theorem kX5_sales_L4 {l : Launch} {D : va_G} {cy : Nat → ClassId} {ad : Nat → Nat} {E : ke_T} {p : Program} {e : Env} {s : State} {m : MethodId} {args : Array Value} {below : List Frame} {meth : Method} {c : Code} {A : Nat → Prop} {Q : State → Prop} (C : km_C p s m args meth c cX5_sales 3 RX5 wsX5_sales (some .int) D (mw_t cy) E A) : ∀ (n : Nat) (x1 : Int32) (x2 : Int32) (S : RSt) (o1 : Int32) (S' : RSt) (h : fX5_sales_L4 n x1 x2 S = some (o1, S')) {H : Heap} {locs : List Loc} {ls : Array Slot} (hP : va_P D vwCl ((mw_w cy ad) S) H) (hD : va_D A ((mw_w cy ad) S)) (hS : va_S A s.heap H locs) (hl : lv_has ls 3 [(0, .ref (ad 0)), (1, .int x1), (2, .int x2)]) (kx0 : ∀ (H : Heap) (locs : List Loc) (ls : Array Slot), va_P D vwCl ((mw_w cy ad) S') H → va_D A ((mw_w cy ad) S') → va_S A s.heap H locs → lv_has ls 3 [(1, .int o1)] → W p l e rmX5_sales s m args below meth c H locs 0 0 Q (F0 m 28 ls [])), W p l e rmX5_sales s m args below meth c H locs 0 0 Q (F0 m 4 ls []) := by
  obtain ⟨⟨hx, hb, hml, hown, hts⟩, hr, hlk, hK, hA, hE, hEE⟩ := id C
  intro n
  induction n with
  | zero =>
    intro x1 x2 S o1 S' h
    rw [fX5_sales_L4] at h
    cases h
  | succ n ih =>
    intro x1 x2 S o1 S' h H locs ls hP hD hS hl kx0
    rw [fX5_sales_L4] at h
    refine lv_iload_n hx hb dX5_sales_4 rfl (lv_at hl 2 rfl) ?_
    refine lv_aload_n hx hb dX5_sales_5 rfl (lv_at hl 0 rfl) ?_
    refine va_get (D := D) (ci := 5) (v := .ref (ad 2)) (C := RX5) (T := TX5) (N := 31) hx hb hts ni_X5_sales_X5 hown hK hP 0 mw_M rfl 11 (by decide) (hts _ nf_X5_sales_f70) (fun _ h9 => h9) rfl dX5_sales_6 ?_
    refine lv_iconst (v := 1) hx hb dX5_sales_9 (by decide) ?_
    obtain ⟨hv_1, h⟩ := ob_in_s h
    refine va_iald hx hb hK hP 2 0 mw_now rfl hv_1 dX5_sales_10 ?_
    refine lv_icmp_ge (tgt := 28) hx hb dX5_sales_11 (by decide) (fun c_2 => ?_) (fun c_2 => ?_)
    · have h := ob_t c_2 h
      cases h
      exact kx0 _ _ _ hP hD hS (lv_sub hl [1] rfl)
    · have h := ob_f c_2 h
      refine lv_iload_n hx hb dX5_sales_14 rfl (lv_at hl 1 rfl) ?_
      refine lv_aload_n hx hb dX5_sales_15 rfl (lv_at hl 0 rfl) ?_
      refine lv_iload_n hx hb dX5_sales_16 rfl (lv_at hl 2 rfl) ?_
      obtain ⟨r_4, S_5, hc_3, h⟩ := ob_2s h
      refine km_cVi (As := [.int x2]) (rest := [.int x1]) C (kX5_salesOf hEE hc_3) (cwV 1 hts gX5_sales_X5_salesOf rfl rfl rfl (by decide +kernel) ⟨(Nat.le_of_ble_eq_true rfl), (Nat.le_of_ble_eq_true rfl)⟩) mw_M rfl rfl rfl hP hD hS hl.1 rfl (Nat.le_of_ble_eq_true rfl) dX5_sales_17 (fun H locs hP hD hS => ?_)
      refine lv_iadd hx hb dX5_sales_20 ?_
      refine lv_istore_n (lv' := [(1, .int (x1 + r_4)), (0, .ref (ad 0)), (2, .int x2)]) hx hb dX5_sales_21 rfl hl (by decide) rfl (fun ls hl => ?_)
      refine lv_iinc (v := x2 + (1 : Int32)) (lv' := [(2, .int (x2 + (1 : Int32))), (1, .int (x1 + r_4)), (0, .ref (ad 0))]) hx hb dX5_sales_22 hl (k := 2) rfl (congrArg (fun z => x2 + z) (by decide)) (by decide) rfl (fun ls hl => ?_)
      refine lv_goto (tgt := 4) hx hb dX5_sales_25 (by decide) ?_
      exact ih _ _ _ _ _ h hP hD hS (lv_sub hl [2, 1, 0] rfl) kx0
set_option maxHeartbeats 4000000 in
set_option maxRecDepth 100000 in
theorem kX5_sales {l : Launch} {D : va_G} {cy : Nat → ClassId} {ad : Nat → Nat} {E : ke_T} (hEE : km_E E) {S : RSt} {r : Int32} {S' : RSt} (h : fX5_sales S = some (r, S')) : km_i l D (mw_t cy) (mw_w cy ad) E yX5_sales wsX5_sales rmX5_sales [.ref (ad 0)] S r S' := by
  refine km_i_in (cc := cX5_sales) (nL := 3) hEE (by decide) rfl (Nat.le_of_ble_eq_true rfl) ?_
  intro p e s m below meth c A H ls C hP hD hS hl
  have C : km_C p s m _ meth c cX5_sales 3 RX5 wsX5_sales (some .int) D (mw_t cy) E A := C
  obtain ⟨⟨hx, hb, hml, hown, hts⟩, hr, hlk, hK, hA, hE, hEE⟩ := id C
  have hl : lv_has ls 3 [(0, .ref (ad 0))] := hl
  unfold fX5_sales at h
  refine lv_iconst (v := 0) hx hb dX5_sales_0 (by decide) ?_
  refine lv_istore_n (lv' := [(1, .int (0 : Int32)), (0, .ref (ad 0))]) hx hb dX5_sales_1 rfl hl (by decide) rfl (fun ls hl => ?_)
  refine lv_iconst (v := 0) hx hb dX5_sales_2 (by decide) ?_
  refine lv_istore_n (lv' := [(2, .int (0 : Int32)), (1, .int (0 : Int32)), (0, .ref (ad 0))]) hx hb dX5_sales_3 rfl hl (by decide) rfl (fun ls hl => ?_)
  obtain ⟨o_8, S_7, hq_6, h⟩ := ob_2s h
  refine kX5_sales_L4  C _ _ _ _ _ _ hq_6 hP hD hS (lv_sub hl [2, 1, 0] rfl) (fun H locs ls hP hD hS hl => ?_)
  refine lv_iload_n hx hb dX5_sales_28 rfl (lv_at hl 0 rfl) ?_
  obtain ⟨rfl, rfl⟩ := ob_w h
  exact km_iret C hP hD hS dX5_sales_29
def fX5_weightOf_L2 : Nat → Int32 → RSt → Option ((Int32 × RSt) ⊕ ((RSt)))
  | 0, _, _ => none
  | n + 1, x2, S => (if x2 ≤ 0 then (some (.inr S)) else (ob_in ((2 : Int32) + x2) 58 (if (st_a S 1 ((2 : Int32) + x2).toNatClampNeg) ≤ 0 then (fX5_weightOf_L2 n (x2 + (-1 : Int32)) S) else (some (.inl (x2, S))))))
def fX5_weightOf (x1 : Int32) (S : RSt) : Option (Int32 × RSt) := (ob_1 (fX5_weightOf_L2 1000 x1 S) fun Z_6 => ob_s2 Z_6 (ob_u2 fun o_7 S_8 => (ob_in ((2 : Int32) + o_7) 58 (some (st_a S_8 1 ((2 : Int32) + o_7).toNatClampNeg, S_8)))) (fun S_11 => (some ((1 : Int32), S_11))))
abbrev rmX5_weightOf : Room := { frames := 0, cells := 0, slots := 0, locals := 0 }
theorem nf_X5_weightOf_f70 : Cond.fieldLink RX5 70 "RepeatIndexModel" "now" "[I" ∈ wsX5_weightOf := by decide +kernel
theorem ni_X5_weightOf_X5 : ∀ w ∈ u_ws RX5 TX5 31, w ∈ wsX5_weightOf := by decide +kernel
set_option maxHeartbeats 4000000 in
set_option maxRecDepth 100000 in
theorem kX5_weightOf_L2 {l : Launch} {D : va_G} {cy : Nat → ClassId} {ad : Nat → Nat} {E : ke_T} {p : Program} {e : Env} {s : State} {m : MethodId} {args : Array Value} {below : List Frame} {meth : Method} {c : Code} {A : Nat → Prop} {Q : State → Prop} (C : km_C p s m args meth c cX5_weightOf 3 RX5 wsX5_weightOf (some .int) D (mw_t cy) E A) : ∀ (n : Nat) (x2 : Int32) (S : RSt) (Z : (Int32 × RSt) ⊕ ((RSt))) (h : fX5_weightOf_L2 n x2 S = some Z) {H : Heap} {locs : List Loc} {ls : Array Slot} (hP : va_P D vwCl ((mw_w cy ad) S) H) (hD : va_D A ((mw_w cy ad) S)) (hS : va_S A s.heap H locs) (hl : lv_has ls 3 [(0, .ref (ad 0)), (2, .int x2)]) (kx0 : ∀ (o2 : Int32) (S' : RSt), Z = .inl (o2, S') → ∀ (H : Heap) (locs : List Loc) (ls : Array Slot), va_P D vwCl ((mw_w cy ad) S') H → va_D A ((mw_w cy ad) S') → va_S A s.heap H locs → lv_has ls 3 [(0, .ref (ad 0)), (2, .int o2)] → W p l e rmX5_weightOf s m args below meth c H locs 0 0 Q (F0 m 17 ls [])) (kx1 : ∀ (S' : RSt), Z = .inr S' → ∀ (H : Heap) (locs : List Loc) (ls : Array Slot), va_P D vwCl ((mw_w cy ad) S') H → va_D A ((mw_w cy ad) S') → va_S A s.heap H locs → lv_has ls 3 [] → W p l e rmX5_weightOf s m args below meth c H locs 0 0 Q (F0 m 32 ls [])), W p l e rmX5_weightOf s m args below meth c H locs 0 0 Q (F0 m 2 ls []) := by
  obtain ⟨⟨hx, hb, hml, hown, hts⟩, hr, hlk, hK, hA, hE, hEE⟩ := id C
  intro n
  induction n with
  | zero =>
    intro x2 S Z h
    rw [fX5_weightOf_L2] at h
    cases h
  | succ n ih =>
    intro x2 S Z h H locs ls hP hD hS hl kx0 kx1
    rw [fX5_weightOf_L2] at h
    refine lv_iload_n hx hb dX5_weightOf_2 rfl (lv_at hl 1 rfl) ?_
    refine lv_if_le (tgt := 32) hx hb dX5_weightOf_3 (by decide) (fun c_1 => ?_) (fun c_1 => ?_)
    · have h := ob_t c_1 h
      exact kx1 _ (ob_v h).symm _ _ _ hP hD hS (lv_sub hl [] rfl)
    · have h := ob_f c_1 h
      refine lv_aload_n hx hb dX5_weightOf_6 rfl (lv_at hl 0 rfl) ?_
      refine va_get (D := D) (ci := 5) (v := .ref (ad 2)) (C := RX5) (T := TX5) (N := 31) hx hb hts ni_X5_weightOf_X5 hown hK hP 0 mw_M rfl 11 (by decide) (hts _ nf_X5_weightOf_f70) (fun _ h9 => h9) rfl dX5_weightOf_7 ?_
      refine lv_iconst (v := 2) hx hb dX5_weightOf_10 (by decide) ?_
      refine lv_iload_n hx hb dX5_weightOf_11 rfl (lv_at hl 1 rfl) ?_
      refine lv_iadd hx hb dX5_weightOf_12 ?_
      obtain ⟨hv_2, h⟩ := ob_in_s h
      refine va_iald hx hb hK hP 2 0 mw_now rfl hv_2 dX5_weightOf_13 ?_
      refine lv_if_le (tgt := 26) hx hb dX5_weightOf_14 (by decide) (fun c_3 => ?_) (fun c_3 => ?_)
      · have h := ob_t c_3 h
        refine lv_iinc (v := x2 + (-1 : Int32)) (lv' := [(2, .int (x2 + (-1 : Int32))), (0, .ref (ad 0))]) hx hb dX5_weightOf_26 hl (k := 1) rfl (congrArg (fun z => x2 + z) (by decide)) (by decide) rfl (fun ls hl => ?_)
        refine lv_goto (tgt := 2) hx hb dX5_weightOf_29 (by decide) ?_
        exact ih _ _ _ h hP hD hS (lv_sub hl [1, 0] rfl) kx0 kx1
      · have h := ob_f c_3 h
        exact kx0 _ _ (ob_v h).symm _ _ _ hP hD hS (lv_sub hl [0, 1] rfl)
set_option maxHeartbeats 4000000 in
set_option maxRecDepth 100000 in
theorem kX5_weightOf {l : Launch} {D : va_G} {cy : Nat → ClassId} {ad : Nat → Nat} {E : ke_T} (hEE : km_E E) {x1 : Int32} {S : RSt} {r : Int32} {S' : RSt} (h : fX5_weightOf x1 S = some (r, S')) : km_i l D (mw_t cy) (mw_w cy ad) E yX5_weightOf wsX5_weightOf rmX5_weightOf [.ref (ad 0), .int x1] S r S' := by
  refine km_i_in (cc := cX5_weightOf) (nL := 3) hEE (by decide) rfl (Nat.le_of_ble_eq_true rfl) ?_
  intro p e s m below meth c A H ls C hP hD hS hl
  have C : km_C p s m _ meth c cX5_weightOf 3 RX5 wsX5_weightOf (some .int) D (mw_t cy) E A := C
  obtain ⟨⟨hx, hb, hml, hown, hts⟩, hr, hlk, hK, hA, hE, hEE⟩ := id C
  have hl : lv_has ls 3 [(0, .ref (ad 0)), (1, .int x1)] := hl
  unfold fX5_weightOf at h
  refine lv_iload_n hx hb dX5_weightOf_0 rfl (lv_at hl 1 rfl) ?_
  refine lv_istore_n (lv' := [(2, .int x1), (0, .ref (ad 0)), (1, .int x1)]) hx hb dX5_weightOf_1 rfl hl (by decide) rfl (fun ls hl => ?_)
  obtain ⟨Z_6, hq_4, h⟩ := ob_1s h
  refine kX5_weightOf_L2  C _ _ _ _ hq_4 hP hD hS (lv_sub hl [1, 0] rfl) (fun o_7 S_8 ee_9 H locs ls hP hD hS hl => ?_) (fun S_11 ee_12 H locs ls hP hD hS hl => ?_)
  · subst ee_9
    have h := ob_s2_0 h
    have h := ob_u2s h
    refine lv_aload_n hx hb dX5_weightOf_17 rfl (lv_at hl 0 rfl) ?_
    refine va_get (D := D) (ci := 5) (v := .ref (ad 2)) (C := RX5) (T := TX5) (N := 31) hx hb hts ni_X5_weightOf_X5 hown hK hP 0 mw_M rfl 11 (by decide) (hts _ nf_X5_weightOf_f70) (fun _ h9 => h9) rfl dX5_weightOf_18 ?_
    refine lv_iconst (v := 2) hx hb dX5_weightOf_21 (by decide) ?_
    refine lv_iload_n hx hb dX5_weightOf_22 rfl (lv_at hl 1 rfl) ?_
    refine lv_iadd hx hb dX5_weightOf_23 ?_
    obtain ⟨hv_10, h⟩ := ob_in_s h
    refine va_iald hx hb hK hP 2 0 mw_now rfl hv_10 dX5_weightOf_24 ?_
    obtain ⟨rfl, rfl⟩ := ob_w h
    exact km_iret C hP hD hS dX5_weightOf_25
  · subst ee_12
    have h := ob_s2_1 h
    refine lv_iconst (v := 1) hx hb dX5_weightOf_32 (by decide) ?_
    obtain ⟨rfl, rfl⟩ := ob_w h
    exact km_iret C hP hD hS dX5_weightOf_33
def fX5_laysPairs_L22 : Nat → Int32 → Int32 → Int32 → Int32 → RSt → Option (RSt)
  | 0, _, _, _, _, _ => none
  | n + 1, x1, x2, x3, x4, S => (if (8 : Int32) ≤ x4 then (some S) else (if x2 = x1 then (some S) else (ob_2 (fX5_isSold x2 x4 S) fun r_6 S_7 => (if r_6 = 0 then (fX5_laysPairs_L22 n x1 x2 x3 (x4 + (1 : Int32)) S_7) else (if x3 = (-1 : Int32) then (fX5_laysPairs_L22 n x1 x2 x4 (x4 + (1 : Int32)) S_7) else (ob_in (st_i S_7 13) 48 (ob_in (st_i (st_sa S_7 4 (st_i S_7 13).toNatClampNeg x2) 13) 48 (ob_in (st_i (st_sa (st_sa S_7 4 (st_i S_7 13).toNatClampNeg x2) 5 (st_i (st_sa S_7 4 (st_i S_7 13).toNatClampNeg x2) 13).toNatClampNeg x3) 13) 48 (ob_2 (fX5_levelOf x2 x4 (st_sa (st_sa (st_sa S_7 4 (st_i S_7 13).toNatClampNeg x2) 5 (st_i (st_sa S_7 4 (st_i S_7 13).toNatClampNeg x2) 13).toNatClampNeg x3) 6 (st_i (st_sa (st_sa S_7 4 (st_i S_7 13).toNatClampNeg x2) 5 (st_i (st_sa S_7 4 (st_i S_7 13).toNatClampNeg x2) 13).toNatClampNeg x3) 13).toNatClampNeg x4)) fun r_15 S_16 => (ob_2 (fX5_levelOf x2 x3 S_16) fun r_18 S_19 => (ob_in (st_i (st_sa (st_sa (st_sa S_7 4 (st_i S_7 13).toNatClampNeg x2) 5 (st_i (st_sa S_7 4 (st_i S_7 13).toNatClampNeg x2) 13).toNatClampNeg x3) 6 (st_i (st_sa (st_sa S_7 4 (st_i S_7 13).toNatClampNeg x2) 5 (st_i (st_sa S_7 4 (st_i S_7 13).toNatClampNeg x2) 13).toNatClampNeg x3) 13).toNatClampNeg x4) 13) 48 (ob_2 (fX5_weightOf (x4 - x3) (st_sa S_19 7 (st_i (st_sa (st_sa (st_sa S_7 4 (st_i S_7 13).toNatClampNeg x2) 5 (st_i (st_sa S_7 4 (st_i S_7 13).toNatClampNeg x2) 13).toNatClampNeg x3) 6 (st_i (st_sa (st_sa S_7 4 (st_i S_7 13).toNatClampNeg x2) 5 (st_i (st_sa S_7 4 (st_i S_7 13).toNatClampNeg x2) 13).toNatClampNeg x3) 13).toNatClampNeg x4) 13).toNatClampNeg (r_15 - r_18))) fun r_22 S_23 => (ob_in (st_i (st_sa S_19 7 (st_i (st_sa (st_sa (st_sa S_7 4 (st_i S_7 13).toNatClampNeg x2) 5 (st_i (st_sa S_7 4 (st_i S_7 13).toNatClampNeg x2) 13).toNatClampNeg x3) 6 (st_i (st_sa (st_sa S_7 4 (st_i S_7 13).toNatClampNeg x2) 5 (st_i (st_sa S_7 4 (st_i S_7 13).toNatClampNeg x2) 13).toNatClampNeg x3) 13).toNatClampNeg x4) 13).toNatClampNeg (r_15 - r_18)) 13) 48 (fX5_laysPairs_L22 n x1 x2 x4 (x4 + (1 : Int32)) (st_si (st_sa S_23 8 (st_i (st_sa S_19 7 (st_i (st_sa (st_sa (st_sa S_7 4 (st_i S_7 13).toNatClampNeg x2) 5 (st_i (st_sa S_7 4 (st_i S_7 13).toNatClampNeg x2) 13).toNatClampNeg x3) 6 (st_i (st_sa (st_sa S_7 4 (st_i S_7 13).toNatClampNeg x2) 5 (st_i (st_sa S_7 4 (st_i S_7 13).toNatClampNeg x2) 13).toNatClampNeg x3) 13).toNatClampNeg x4) 13).toNatClampNeg (r_15 - r_18)) 13).toNatClampNeg r_22) 13 ((st_i (st_sa S_23 8 (st_i (st_sa S_19 7 (st_i (st_sa (st_sa (st_sa S_7 4 (st_i S_7 13).toNatClampNeg x2) 5 (st_i (st_sa S_7 4 (st_i S_7 13).toNatClampNeg x2) 13).toNatClampNeg x3) 6 (st_i (st_sa (st_sa S_7 4 (st_i S_7 13).toNatClampNeg x2) 5 (st_i (st_sa S_7 4 (st_i S_7 13).toNatClampNeg x2) 13).toNatClampNeg x3) 13).toNatClampNeg x4) 13).toNatClampNeg (r_15 - r_18)) 13).toNatClampNeg r_22) 13) + (1 : Int32)))))))))))))))))
def fX5_laysPairs_L7 : Nat → Int32 → Int32 → RSt → Option (RSt)
  | 0, _, _, _ => none
  | n + 1, x1, x2, S => (ob_in (1 : Int32) 58 (if (st_a S 1 (1 : Int32).toNatClampNeg) ≤ x2 then (some S) else (ob_1 (fX5_laysPairs_L22 1000 x1 x2 (-1 : Int32) (0 : Int32) S) fun S_26 => (fX5_laysPairs_L7 n x1 (x2 + (1 : Int32)) S_26))))
def fX5_laysPairs (x1 : Int32) (S : RSt) : Option (RSt) := (ob_1 (fX5_laysPairs_L7 1000 x1 (0 : Int32) (st_si S 13 (0 : Int32))) fun S_28 => (some S_28))
abbrev rmX5_laysPairs : Room := { frames := 2, cells := 0, slots := 0, locals := 43 }
theorem nf_X5_laysPairs_f175 : Cond.fieldLink RX5 175 "RepeatIndexModel" "pairs" "I" ∈ wsX5_laysPairs := by decide +kernel
theorem ni_X5_laysPairs_X5 : ∀ w ∈ u_ws RX5 TX5 31, w ∈ wsX5_laysPairs := by decide +kernel
theorem nf_X5_laysPairs_f70 : Cond.fieldLink RX5 70 "RepeatIndexModel" "now" "[I" ∈ wsX5_laysPairs := by decide +kernel
theorem nf_X5_laysPairs_f79 : Cond.fieldLink RX5 79 "RepeatIndexModel" "pHome" "[I" ∈ wsX5_laysPairs := by decide +kernel
theorem nf_X5_laysPairs_f82 : Cond.fieldLink RX5 82 "RepeatIndexModel" "pFrom" "[I" ∈ wsX5_laysPairs := by decide +kernel
theorem nf_X5_laysPairs_f85 : Cond.fieldLink RX5 85 "RepeatIndexModel" "pTo" "[I" ∈ wsX5_laysPairs := by decide +kernel
theorem nf_X5_laysPairs_f88 : Cond.fieldLink RX5 88 "RepeatIndexModel" "pRise" "[I" ∈ wsX5_laysPairs := by decide +kernel
theorem nf_X5_laysPairs_f91 : Cond.fieldLink RX5 91 "RepeatIndexModel" "pWeight" "[I" ∈ wsX5_laysPairs := by decide +kernel
set_option maxHeartbeats 4000000 in
set_option maxRecDepth 100000 in
theorem kX5_laysPairs_L22 {l : Launch} {D : va_G} {cy : Nat → ClassId} {ad : Nat → Nat} {E : ke_T} {p : Program} {e : Env} {s : State} {m : MethodId} {args : Array Value} {below : List Frame} {meth : Method} {c : Code} {A : Nat → Prop} {Q : State → Prop} (C : km_C p s m args meth c cX5_laysPairs 5 RX5 wsX5_laysPairs none D (mw_t cy) E A) : ∀ (n : Nat) (x1 : Int32) (x2 : Int32) (x3 : Int32) (x4 : Int32) (S : RSt) (S' : RSt) (h : fX5_laysPairs_L22 n x1 x2 x3 x4 S = some S') {H : Heap} {locs : List Loc} {ls : Array Slot} (hP : va_P D vwCl ((mw_w cy ad) S) H) (hD : va_D A ((mw_w cy ad) S)) (hS : va_S A s.heap H locs) (hl : lv_has ls 5 [(0, .ref (ad 0)), (1, .int x1), (2, .int x2), (3, .int x3), (4, .int x4)]) (kx0 : ∀ (H : Heap) (locs : List Loc) (ls : Array Slot), va_P D vwCl ((mw_w cy ad) S') H → va_D A ((mw_w cy ad) S') → va_S A s.heap H locs → lv_has ls 5 [(0, .ref (ad 0)), (1, .int x1), (2, .int x2)] → W p l e rmX5_laysPairs s m args below meth c H locs 0 0 Q (F0 m 142 ls [])), W p l e rmX5_laysPairs s m args below meth c H locs 0 0 Q (F0 m 22 ls []) := by
  obtain ⟨⟨hx, hb, hml, hown, hts⟩, hr, hlk, hK, hA, hE, hEE⟩ := id C
  intro n
  induction n with
  | zero =>
    intro x1 x2 x3 x4 S S' h
    rw [fX5_laysPairs_L22] at h
    cases h
  | succ n ih =>
    intro x1 x2 x3 x4 S S' h H locs ls hP hD hS hl kx0
    rw [fX5_laysPairs_L22] at h
    refine lv_iload hx hb dX5_laysPairs_22 (lv_at hl 4 rfl) ?_
    refine lv_bipush (v := 8) hx hb dX5_laysPairs_24 (by decide) ?_
    refine lv_icmp_ge (tgt := 142) hx hb dX5_laysPairs_26 (by decide) (fun c_3 => ?_) (fun c_3 => ?_)
    · have h := ob_t c_3 h
      cases h
      exact kx0 _ _ _ hP hD hS (lv_sub hl [0, 1, 2] rfl)
    · have h := ob_f c_3 h
      refine lv_iload_n hx hb dX5_laysPairs_29 rfl (lv_at hl 2 rfl) ?_
      refine lv_iload_n hx hb dX5_laysPairs_30 rfl (lv_at hl 1 rfl) ?_
      refine lv_icmp_eq (tgt := 142) hx hb dX5_laysPairs_31 (by decide) (fun c_4 => ?_) (fun c_4 => ?_)
      · have h := ob_t c_4 h
        cases h
        exact kx0 _ _ _ hP hD hS (lv_sub hl [0, 1, 2] rfl)
      · have h := ob_f c_4 h
        refine lv_aload_n hx hb dX5_laysPairs_34 rfl (lv_at hl 0 rfl) ?_
        refine lv_iload_n hx hb dX5_laysPairs_35 rfl (lv_at hl 2 rfl) ?_
        refine lv_iload hx hb dX5_laysPairs_36 (lv_at hl 4 rfl) ?_
        obtain ⟨r_6, S_7, hc_5, h⟩ := ob_2s h
        refine km_cVz (As := [.int x2, .int x4]) (rest := []) C (kX5_isSold hEE hc_5) (cwV 2 hts gX5_laysPairs_X5_isSold rfl rfl rfl (by decide +kernel) ⟨(Nat.le_of_ble_eq_true rfl), (Nat.le_of_ble_eq_true rfl)⟩) mw_M rfl rfl rfl hP hD hS hl.1 rfl (Nat.le_of_ble_eq_true rfl) dX5_laysPairs_38 (fun H locs hP hD hS hz_8 => ?_)
        refine lv_if_ne (tgt := 47) hx hb dX5_laysPairs_41 (by decide) (fun c_9 => ?_) (fun c_9 => ?_)
        · have h := ob_f c_9 h
          refine lv_iload_n hx hb dX5_laysPairs_47 rfl (lv_at hl 3 rfl) ?_
          refine lv_iconst (v := -1) hx hb dX5_laysPairs_48 (by decide) ?_
          refine lv_icmp_eq (tgt := 133) hx hb dX5_laysPairs_49 (by decide) (fun c_10 => ?_) (fun c_10 => ?_)
          · have h := ob_t c_10 h
            refine lv_iload hx hb dX5_laysPairs_133 (lv_at hl 4 rfl) ?_
            refine lv_istore_n (lv' := [(3, .int x4), (0, .ref (ad 0)), (1, .int x1), (2, .int x2), (4, .int x4)]) hx hb dX5_laysPairs_135 rfl hl (by decide) rfl (fun ls hl => ?_)
            refine lv_iinc (v := x4 + (1 : Int32)) (lv' := [(4, .int (x4 + (1 : Int32))), (3, .int x4), (0, .ref (ad 0)), (1, .int x1), (2, .int x2)]) hx hb dX5_laysPairs_136 hl (k := 4) rfl (congrArg (fun z => x4 + z) (by decide)) (by decide) rfl (fun ls hl => ?_)
            refine lv_goto (tgt := 22) hx hb dX5_laysPairs_139 (by decide) ?_
            exact ih _ _ _ _ _ _ h hP hD hS (lv_sub hl [2, 3, 4, 1, 0] rfl) kx0
          · have h := ob_f c_10 h
            refine lv_aload_n hx hb dX5_laysPairs_52 rfl (lv_at hl 0 rfl) ?_
            refine va_get (D := D) (ci := 5) (v := .ref (ad 5)) (C := RX5) (T := TX5) (N := 31) hx hb hts ni_X5_laysPairs_X5 hown hK hP 0 mw_M rfl 18 (by decide) (hts _ nf_X5_laysPairs_f79) (fun _ h9 => h9) rfl dX5_laysPairs_53 ?_
            refine lv_aload_n hx hb dX5_laysPairs_56 rfl (lv_at hl 0 rfl) ?_
            refine va_get (D := D) (ci := 5) (v := .int (st_i S_7 13)) (C := RX5) (T := TX5) (N := 31) hx hb hts ni_X5_laysPairs_X5 hown hK hP 0 mw_M rfl 23 (by decide) (hts _ nf_X5_laysPairs_f175) (fun _ h9 => h9) rfl dX5_laysPairs_57 ?_
            refine lv_iload_n hx hb dX5_laysPairs_60 rfl (lv_at hl 2 rfl) ?_
            obtain ⟨hv_11, h⟩ := ob_in_s h
            refine va_iast hx hb hK hP hD hS 5 0 mw_pHome rfl hv_11 dX5_laysPairs_61 (fun H locs hP hD hS => ?_)
            have hP := st_ps mw_s_pHome hP
            have hD := st_ds mw_s_pHome hD
            refine lv_aload_n hx hb dX5_laysPairs_62 rfl (lv_at hl 0 rfl) ?_
            refine va_get (D := D) (ci := 5) (v := .ref (ad 6)) (C := RX5) (T := TX5) (N := 31) hx hb hts ni_X5_laysPairs_X5 hown hK hP 0 mw_M rfl 19 (by decide) (hts _ nf_X5_laysPairs_f82) (fun _ h9 => h9) rfl dX5_laysPairs_63 ?_
            refine lv_aload_n hx hb dX5_laysPairs_66 rfl (lv_at hl 0 rfl) ?_
            refine va_get (D := D) (ci := 5) (v := .int (st_i (st_sa S_7 4 (st_i S_7 13).toNatClampNeg x2) 13)) (C := RX5) (T := TX5) (N := 31) hx hb hts ni_X5_laysPairs_X5 hown hK hP 0 mw_M rfl 23 (by decide) (hts _ nf_X5_laysPairs_f175) (fun _ h9 => h9) rfl dX5_laysPairs_67 ?_
            refine lv_iload_n hx hb dX5_laysPairs_70 rfl (lv_at hl 3 rfl) ?_
            obtain ⟨hv_12, h⟩ := ob_in_s h
            refine va_iast hx hb hK hP hD hS 6 0 mw_pFrom rfl hv_12 dX5_laysPairs_71 (fun H locs hP hD hS => ?_)
            have hP := st_ps mw_s_pFrom hP
            have hD := st_ds mw_s_pFrom hD
            refine lv_aload_n hx hb dX5_laysPairs_72 rfl (lv_at hl 0 rfl) ?_
            refine va_get (D := D) (ci := 5) (v := .ref (ad 7)) (C := RX5) (T := TX5) (N := 31) hx hb hts ni_X5_laysPairs_X5 hown hK hP 0 mw_M rfl 20 (by decide) (hts _ nf_X5_laysPairs_f85) (fun _ h9 => h9) rfl dX5_laysPairs_73 ?_
            refine lv_aload_n hx hb dX5_laysPairs_76 rfl (lv_at hl 0 rfl) ?_
            refine va_get (D := D) (ci := 5) (v := .int (st_i (st_sa (st_sa S_7 4 (st_i S_7 13).toNatClampNeg x2) 5 (st_i (st_sa S_7 4 (st_i S_7 13).toNatClampNeg x2) 13).toNatClampNeg x3) 13)) (C := RX5) (T := TX5) (N := 31) hx hb hts ni_X5_laysPairs_X5 hown hK hP 0 mw_M rfl 23 (by decide) (hts _ nf_X5_laysPairs_f175) (fun _ h9 => h9) rfl dX5_laysPairs_77 ?_
            refine lv_iload hx hb dX5_laysPairs_80 (lv_at hl 4 rfl) ?_
            obtain ⟨hv_13, h⟩ := ob_in_s h
            refine va_iast hx hb hK hP hD hS 7 0 mw_pTo rfl hv_13 dX5_laysPairs_82 (fun H locs hP hD hS => ?_)
            have hP := st_ps mw_s_pTo hP
            have hD := st_ds mw_s_pTo hD
            refine lv_aload_n hx hb dX5_laysPairs_83 rfl (lv_at hl 0 rfl) ?_
            refine va_get (D := D) (ci := 5) (v := .ref (ad 8)) (C := RX5) (T := TX5) (N := 31) hx hb hts ni_X5_laysPairs_X5 hown hK hP 0 mw_M rfl 21 (by decide) (hts _ nf_X5_laysPairs_f88) (fun _ h9 => h9) rfl dX5_laysPairs_84 ?_
            refine lv_aload_n hx hb dX5_laysPairs_87 rfl (lv_at hl 0 rfl) ?_
            refine va_get (D := D) (ci := 5) (v := .int (st_i (st_sa (st_sa (st_sa S_7 4 (st_i S_7 13).toNatClampNeg x2) 5 (st_i (st_sa S_7 4 (st_i S_7 13).toNatClampNeg x2) 13).toNatClampNeg x3) 6 (st_i (st_sa (st_sa S_7 4 (st_i S_7 13).toNatClampNeg x2) 5 (st_i (st_sa S_7 4 (st_i S_7 13).toNatClampNeg x2) 13).toNatClampNeg x3) 13).toNatClampNeg x4) 13)) (C := RX5) (T := TX5) (N := 31) hx hb hts ni_X5_laysPairs_X5 hown hK hP 0 mw_M rfl 23 (by decide) (hts _ nf_X5_laysPairs_f175) (fun _ h9 => h9) rfl dX5_laysPairs_88 ?_
            refine lv_aload_n hx hb dX5_laysPairs_91 rfl (lv_at hl 0 rfl) ?_
            refine lv_iload_n hx hb dX5_laysPairs_92 rfl (lv_at hl 2 rfl) ?_
            refine lv_iload hx hb dX5_laysPairs_93 (lv_at hl 4 rfl) ?_
            obtain ⟨r_15, S_16, hc_14, h⟩ := ob_2s h
            refine km_cVi (As := [.int x2, .int x4]) (rest := [.int (st_i (st_sa (st_sa (st_sa S_7 4 (st_i S_7 13).toNatClampNeg x2) 5 (st_i (st_sa S_7 4 (st_i S_7 13).toNatClampNeg x2) 13).toNatClampNeg x3) 6 (st_i (st_sa (st_sa S_7 4 (st_i S_7 13).toNatClampNeg x2) 5 (st_i (st_sa S_7 4 (st_i S_7 13).toNatClampNeg x2) 13).toNatClampNeg x3) 13).toNatClampNeg x4) 13), .ref (ad 8)]) C (kX5_levelOf hEE hc_14) (cwV 2 hts gX5_laysPairs_X5_levelOf rfl rfl rfl (by decide +kernel) ⟨(Nat.le_of_ble_eq_true rfl), (Nat.le_of_ble_eq_true rfl)⟩) mw_M rfl rfl rfl hP hD hS hl.1 rfl (Nat.le_of_ble_eq_true rfl) dX5_laysPairs_95 (fun H locs hP hD hS => ?_)
            refine lv_aload_n hx hb dX5_laysPairs_98 rfl (lv_at hl 0 rfl) ?_
            refine lv_iload_n hx hb dX5_laysPairs_99 rfl (lv_at hl 2 rfl) ?_
            refine lv_iload_n hx hb dX5_laysPairs_100 rfl (lv_at hl 3 rfl) ?_
            obtain ⟨r_18, S_19, hc_17, h⟩ := ob_2s h
            refine km_cVi (As := [.int x2, .int x3]) (rest := [.int r_15, .int (st_i (st_sa (st_sa (st_sa S_7 4 (st_i S_7 13).toNatClampNeg x2) 5 (st_i (st_sa S_7 4 (st_i S_7 13).toNatClampNeg x2) 13).toNatClampNeg x3) 6 (st_i (st_sa (st_sa S_7 4 (st_i S_7 13).toNatClampNeg x2) 5 (st_i (st_sa S_7 4 (st_i S_7 13).toNatClampNeg x2) 13).toNatClampNeg x3) 13).toNatClampNeg x4) 13), .ref (ad 8)]) C (kX5_levelOf hEE hc_17) (cwV 2 hts gX5_laysPairs_X5_levelOf rfl rfl rfl (by decide +kernel) ⟨(Nat.le_of_ble_eq_true rfl), (Nat.le_of_ble_eq_true rfl)⟩) mw_M rfl rfl rfl hP hD hS hl.1 rfl (Nat.le_of_ble_eq_true rfl) dX5_laysPairs_101 (fun H locs hP hD hS => ?_)
            refine lv_isub hx hb dX5_laysPairs_104 ?_
            obtain ⟨hv_20, h⟩ := ob_in_s h
            refine va_iast hx hb hK hP hD hS 8 0 mw_pRise rfl hv_20 dX5_laysPairs_105 (fun H locs hP hD hS => ?_)
            have hP := st_ps mw_s_pRise hP
            have hD := st_ds mw_s_pRise hD
            refine lv_aload_n hx hb dX5_laysPairs_106 rfl (lv_at hl 0 rfl) ?_
            refine va_get (D := D) (ci := 5) (v := .ref (ad 9)) (C := RX5) (T := TX5) (N := 31) hx hb hts ni_X5_laysPairs_X5 hown hK hP 0 mw_M rfl 22 (by decide) (hts _ nf_X5_laysPairs_f91) (fun _ h9 => h9) rfl dX5_laysPairs_107 ?_
            refine lv_aload_n hx hb dX5_laysPairs_110 rfl (lv_at hl 0 rfl) ?_
            refine va_get (D := D) (ci := 5) (v := .int (st_i (st_sa S_19 7 (st_i (st_sa (st_sa (st_sa S_7 4 (st_i S_7 13).toNatClampNeg x2) 5 (st_i (st_sa S_7 4 (st_i S_7 13).toNatClampNeg x2) 13).toNatClampNeg x3) 6 (st_i (st_sa (st_sa S_7 4 (st_i S_7 13).toNatClampNeg x2) 5 (st_i (st_sa S_7 4 (st_i S_7 13).toNatClampNeg x2) 13).toNatClampNeg x3) 13).toNatClampNeg x4) 13).toNatClampNeg (r_15 - r_18)) 13)) (C := RX5) (T := TX5) (N := 31) hx hb hts ni_X5_laysPairs_X5 hown hK hP 0 mw_M rfl 23 (by decide) (hts _ nf_X5_laysPairs_f175) (fun _ h9 => h9) rfl dX5_laysPairs_111 ?_
            refine lv_aload_n hx hb dX5_laysPairs_114 rfl (lv_at hl 0 rfl) ?_
            refine lv_iload hx hb dX5_laysPairs_115 (lv_at hl 4 rfl) ?_
            refine lv_iload_n hx hb dX5_laysPairs_117 rfl (lv_at hl 3 rfl) ?_
            refine lv_isub hx hb dX5_laysPairs_118 ?_
            obtain ⟨r_22, S_23, hc_21, h⟩ := ob_2s h
            refine km_cVi (As := [.int (x4 - x3)]) (rest := [.int (st_i (st_sa S_19 7 (st_i (st_sa (st_sa (st_sa S_7 4 (st_i S_7 13).toNatClampNeg x2) 5 (st_i (st_sa S_7 4 (st_i S_7 13).toNatClampNeg x2) 13).toNatClampNeg x3) 6 (st_i (st_sa (st_sa S_7 4 (st_i S_7 13).toNatClampNeg x2) 5 (st_i (st_sa S_7 4 (st_i S_7 13).toNatClampNeg x2) 13).toNatClampNeg x3) 13).toNatClampNeg x4) 13).toNatClampNeg (r_15 - r_18)) 13), .ref (ad 9)]) C (kX5_weightOf hEE hc_21) (cwV 1 hts gX5_laysPairs_X5_weightOf rfl rfl rfl (by decide +kernel) ⟨(Nat.le_of_ble_eq_true rfl), (Nat.le_of_ble_eq_true rfl)⟩) mw_M rfl rfl rfl hP hD hS hl.1 rfl (Nat.le_of_ble_eq_true rfl) dX5_laysPairs_119 (fun H locs hP hD hS => ?_)
            obtain ⟨hv_24, h⟩ := ob_in_s h
            refine va_iast hx hb hK hP hD hS 9 0 mw_pWeight rfl hv_24 dX5_laysPairs_122 (fun H locs hP hD hS => ?_)
            have hP := st_ps mw_s_pWeight hP
            have hD := st_ds mw_s_pWeight hD
            refine lv_aload_n hx hb dX5_laysPairs_123 rfl (lv_at hl 0 rfl) ?_
            refine lv_dup hx hb dX5_laysPairs_124 rfl ?_
            refine va_get (D := D) (ci := 5) (v := .int (st_i (st_sa S_23 8 (st_i (st_sa S_19 7 (st_i (st_sa (st_sa (st_sa S_7 4 (st_i S_7 13).toNatClampNeg x2) 5 (st_i (st_sa S_7 4 (st_i S_7 13).toNatClampNeg x2) 13).toNatClampNeg x3) 6 (st_i (st_sa (st_sa S_7 4 (st_i S_7 13).toNatClampNeg x2) 5 (st_i (st_sa S_7 4 (st_i S_7 13).toNatClampNeg x2) 13).toNatClampNeg x3) 13).toNatClampNeg x4) 13).toNatClampNeg (r_15 - r_18)) 13).toNatClampNeg r_22) 13)) (C := RX5) (T := TX5) (N := 31) hx hb hts ni_X5_laysPairs_X5 hown hK hP 0 mw_M rfl 23 (by decide) (hts _ nf_X5_laysPairs_f175) (fun _ h9 => h9) rfl dX5_laysPairs_125 ?_
            refine lv_iconst (v := 1) hx hb dX5_laysPairs_128 (by decide) ?_
            refine lv_iadd hx hb dX5_laysPairs_129 ?_
            refine va_put (D := D) (ci := 5) (v := .int ((st_i (st_sa S_23 8 (st_i (st_sa S_19 7 (st_i (st_sa (st_sa (st_sa S_7 4 (st_i S_7 13).toNatClampNeg x2) 5 (st_i (st_sa S_7 4 (st_i S_7 13).toNatClampNeg x2) 13).toNatClampNeg x3) 6 (st_i (st_sa (st_sa S_7 4 (st_i S_7 13).toNatClampNeg x2) 5 (st_i (st_sa S_7 4 (st_i S_7 13).toNatClampNeg x2) 13).toNatClampNeg x3) 13).toNatClampNeg x4) 13).toNatClampNeg (r_15 - r_18)) 13).toNatClampNeg r_22) 13) + (1 : Int32))) (ty := .int) (C := RX5) (T := TX5) (N := 31) hx hb hts ni_X5_laysPairs_X5 tyX5 tyX5_ok nmX5 hown hK hP hD hS 0 mw_M rfl 23 (by decide) (hts _ nf_X5_laysPairs_f175) (fun _ h9 => h9) rfl (by decide +kernel) rfl rfl (Nat.le_of_ble_eq_true rfl) dX5_laysPairs_130 (fun H locs hP hD hS => ?_)
            have hP := st_ps mw_s_pairs hP
            have hD := st_ds mw_s_pairs hD
            refine lv_iload hx hb dX5_laysPairs_133 (lv_at hl 4 rfl) ?_
            refine lv_istore_n (lv' := [(3, .int x4), (0, .ref (ad 0)), (1, .int x1), (2, .int x2), (4, .int x4)]) hx hb dX5_laysPairs_135 rfl hl (by decide) rfl (fun ls hl => ?_)
            refine lv_iinc (v := x4 + (1 : Int32)) (lv' := [(4, .int (x4 + (1 : Int32))), (3, .int x4), (0, .ref (ad 0)), (1, .int x1), (2, .int x2)]) hx hb dX5_laysPairs_136 hl (k := 4) rfl (congrArg (fun z => x4 + z) (by decide)) (by decide) rfl (fun ls hl => ?_)
            refine lv_goto (tgt := 22) hx hb dX5_laysPairs_139 (by decide) ?_
            exact ih _ _ _ _ _ _ h hP hD hS (lv_sub hl [2, 3, 4, 1, 0] rfl) kx0
        · have h := ob_t c_9 h
          refine lv_goto (tgt := 136) hx hb dX5_laysPairs_44 (by decide) ?_
          refine lv_iinc (v := x4 + (1 : Int32)) (lv' := [(4, .int (x4 + (1 : Int32))), (0, .ref (ad 0)), (1, .int x1), (2, .int x2), (3, .int x3)]) hx hb dX5_laysPairs_136 hl (k := 4) rfl (congrArg (fun z => x4 + z) (by decide)) (by decide) rfl (fun ls hl => ?_)
          refine lv_goto (tgt := 22) hx hb dX5_laysPairs_139 (by decide) ?_
          exact ih _ _ _ _ _ _ h hP hD hS (lv_sub hl [1, 2, 3, 4, 0] rfl) kx0
set_option maxHeartbeats 4000000 in
set_option maxRecDepth 100000 in
theorem kX5_laysPairs_L7 {l : Launch} {D : va_G} {cy : Nat → ClassId} {ad : Nat → Nat} {E : ke_T} {p : Program} {e : Env} {s : State} {m : MethodId} {args : Array Value} {below : List Frame} {meth : Method} {c : Code} {A : Nat → Prop} {Q : State → Prop} (C : km_C p s m args meth c cX5_laysPairs 5 RX5 wsX5_laysPairs none D (mw_t cy) E A) : ∀ (n : Nat) (x1 : Int32) (x2 : Int32) (S : RSt) (S' : RSt) (h : fX5_laysPairs_L7 n x1 x2 S = some S') {H : Heap} {locs : List Loc} {ls : Array Slot} (hP : va_P D vwCl ((mw_w cy ad) S) H) (hD : va_D A ((mw_w cy ad) S)) (hS : va_S A s.heap H locs) (hl : lv_has ls 5 [(0, .ref (ad 0)), (1, .int x1), (2, .int x2)]) (kx0 : ∀ (H : Heap) (locs : List Loc) (ls : Array Slot), va_P D vwCl ((mw_w cy ad) S') H → va_D A ((mw_w cy ad) S') → va_S A s.heap H locs → lv_has ls 5 [] → W p l e rmX5_laysPairs s m args below meth c H locs 0 0 Q (F0 m 148 ls [])), W p l e rmX5_laysPairs s m args below meth c H locs 0 0 Q (F0 m 7 ls []) := by
  obtain ⟨⟨hx, hb, hml, hown, hts⟩, hr, hlk, hK, hA, hE, hEE⟩ := id C
  intro n
  induction n with
  | zero =>
    intro x1 x2 S S' h
    rw [fX5_laysPairs_L7] at h
    cases h
  | succ n ih =>
    intro x1 x2 S S' h H locs ls hP hD hS hl kx0
    rw [fX5_laysPairs_L7] at h
    refine lv_iload_n hx hb dX5_laysPairs_7 rfl (lv_at hl 2 rfl) ?_
    refine lv_aload_n hx hb dX5_laysPairs_8 rfl (lv_at hl 0 rfl) ?_
    refine va_get (D := D) (ci := 5) (v := .ref (ad 2)) (C := RX5) (T := TX5) (N := 31) hx hb hts ni_X5_laysPairs_X5 hown hK hP 0 mw_M rfl 11 (by decide) (hts _ nf_X5_laysPairs_f70) (fun _ h9 => h9) rfl dX5_laysPairs_9 ?_
    refine lv_iconst (v := 1) hx hb dX5_laysPairs_12 (by decide) ?_
    obtain ⟨hv_1, h⟩ := ob_in_s h
    refine va_iald hx hb hK hP 2 0 mw_now rfl hv_1 dX5_laysPairs_13 ?_
    refine lv_icmp_ge (tgt := 148) hx hb dX5_laysPairs_14 (by decide) (fun c_2 => ?_) (fun c_2 => ?_)
    · have h := ob_t c_2 h
      cases h
      exact kx0 _ _ _ hP hD hS (lv_sub hl [] rfl)
    · have h := ob_f c_2 h
      refine lv_iconst (v := -1) hx hb dX5_laysPairs_17 (by decide) ?_
      refine lv_istore_n (lv' := [(3, .int (-1 : Int32)), (0, .ref (ad 0)), (1, .int x1), (2, .int x2)]) hx hb dX5_laysPairs_18 rfl hl (by decide) rfl (fun ls hl => ?_)
      refine lv_iconst (v := 0) hx hb dX5_laysPairs_19 (by decide) ?_
      refine lv_istore (lv' := [(4, .int (0 : Int32)), (3, .int (-1 : Int32)), (0, .ref (ad 0)), (1, .int x1), (2, .int x2)]) hx hb dX5_laysPairs_20 hl (by decide) rfl (fun ls hl => ?_)
      obtain ⟨S_26, hq_25, h⟩ := ob_1s h
      refine kX5_laysPairs_L22  C _ _ _ _ _ _ _ hq_25 hP hD hS (lv_sub hl [2, 3, 4, 1, 0] rfl) (fun H locs ls hP hD hS hl => ?_)
      refine lv_iinc (v := x2 + (1 : Int32)) (lv' := [(2, .int (x2 + (1 : Int32))), (0, .ref (ad 0)), (1, .int x1)]) hx hb dX5_laysPairs_142 hl (k := 2) rfl (congrArg (fun z => x2 + z) (by decide)) (by decide) rfl (fun ls hl => ?_)
      refine lv_goto (tgt := 7) hx hb dX5_laysPairs_145 (by decide) ?_
      exact ih _ _ _ _ h hP hD hS (lv_sub hl [1, 2, 0] rfl) kx0
set_option maxHeartbeats 4000000 in
set_option maxRecDepth 100000 in
theorem kX5_laysPairs {l : Launch} {D : va_G} {cy : Nat → ClassId} {ad : Nat → Nat} {E : ke_T} (hEE : km_E E) {x1 : Int32} {S : RSt} {S' : RSt} (h : fX5_laysPairs x1 S = some S') : km_v l D (mw_t cy) (mw_w cy ad) E yX5_laysPairs wsX5_laysPairs rmX5_laysPairs [.ref (ad 0), .int x1] S S' := by
  refine km_v_in (cc := cX5_laysPairs) (nL := 5) hEE (by decide) rfl (Nat.le_of_ble_eq_true rfl) ?_
  intro p e s m below meth c A H ls C hP hD hS hl
  have C : km_C p s m _ meth c cX5_laysPairs 5 RX5 wsX5_laysPairs none D (mw_t cy) E A := C
  obtain ⟨⟨hx, hb, hml, hown, hts⟩, hr, hlk, hK, hA, hE, hEE⟩ := id C
  have hl : lv_has ls 5 [(0, .ref (ad 0)), (1, .int x1)] := hl
  unfold fX5_laysPairs at h
  refine lv_aload_n hx hb dX5_laysPairs_0 rfl (lv_at hl 0 rfl) ?_
  refine lv_iconst (v := 0) hx hb dX5_laysPairs_1 (by decide) ?_
  refine va_put (D := D) (ci := 5) (v := .int (0 : Int32)) (ty := .int) (C := RX5) (T := TX5) (N := 31) hx hb hts ni_X5_laysPairs_X5 tyX5 tyX5_ok nmX5 hown hK hP hD hS 0 mw_M rfl 23 (by decide) (hts _ nf_X5_laysPairs_f175) (fun _ h9 => h9) rfl (by decide +kernel) rfl rfl (Nat.le_of_ble_eq_true rfl) dX5_laysPairs_2 (fun H locs hP hD hS => ?_)
  have hP := st_ps mw_s_pairs hP
  have hD := st_ds mw_s_pairs hD
  refine lv_iconst (v := 0) hx hb dX5_laysPairs_5 (by decide) ?_
  refine lv_istore_n (lv' := [(2, .int (0 : Int32)), (0, .ref (ad 0)), (1, .int x1)]) hx hb dX5_laysPairs_6 rfl hl (by decide) rfl (fun ls hl => ?_)
  obtain ⟨S_28, hq_27, h⟩ := ob_1s h
  refine kX5_laysPairs_L7  C _ _ _ _ _ hq_27 hP hD hS (lv_sub hl [1, 2, 0] rfl) (fun H locs ls hP hD hS hl => ?_)
  obtain rfl := ob_v h
  exact km_vret C hP hD hS dX5_laysPairs_148
def fX5_laysParts_L2 : Nat → Int32 → RSt → Option (RSt)
  | 0, _, _ => none
  | n + 1, x1, S => (if (8 : Int32) ≤ x1 then (some S) else (ob_in x1 8 (fX5_laysParts_L2 n (x1 + (1 : Int32)) (st_sa S 9 x1.toNatClampNeg x1))))
def fX5_laysParts_L31 : Nat → Int32 → Int32 → RSt → Option (Int32 × RSt)
  | 0, _, _, _ => none
  | n + 1, x1, x2, S => (if (st_i S 13) ≤ x2 then (some (x1, S)) else (ob_in x2 48 (ob_in (st_a S 5 x2.toNatClampNeg) 8 (ob_in x2 48 (ob_in (st_a S 6 x2.toNatClampNeg) 8 (if (st_a S 9 (st_a S 5 x2.toNatClampNeg).toNatClampNeg) = (st_a S 9 (st_a S 6 x2.toNatClampNeg).toNatClampNeg) then (fX5_laysParts_L31 n x1 (x2 + (1 : Int32)) S) else (ob_in x2 48 (ob_j (fun (sJ_13_0 : Int32) (S_14 : RSt) => (ob_in (st_a S 5 x2.toNatClampNeg) 8 (ob_in x2 48 (if (st_a S 9 (st_a S 6 x2.toNatClampNeg).toNatClampNeg) ≤ (st_a S 9 (st_a S 5 x2.toNatClampNeg).toNatClampNeg) then (ob_in (st_a (st_sa S_14 9 (st_a S 5 x2.toNatClampNeg).toNatClampNeg sJ_13_0) 6 x2.toNatClampNeg) 8 (fX5_laysParts_L31 n (1 : Int32) (x2 + (1 : Int32)) (st_sa (st_sa S_14 9 (st_a S 5 x2.toNatClampNeg).toNatClampNeg sJ_13_0) 9 (st_a (st_sa S_14 9 (st_a S 5 x2.toNatClampNeg).toNatClampNeg sJ_13_0) 6 x2.toNatClampNeg).toNatClampNeg (st_a S 9 (st_a S 6 x2.toNatClampNeg).toNatClampNeg)))) else (ob_in (st_a (st_sa S_14 9 (st_a S 5 x2.toNatClampNeg).toNatClampNeg sJ_13_0) 6 x2.toNatClampNeg) 8 (fX5_laysParts_L31 n (1 : Int32) (x2 + (1 : Int32)) (st_sa (st_sa S_14 9 (st_a S 5 x2.toNatClampNeg).toNatClampNeg sJ_13_0) 9 (st_a (st_sa S_14 9 (st_a S 5 x2.toNatClampNeg).toNatClampNeg sJ_13_0) 6 x2.toNatClampNeg).toNatClampNeg (st_a S 9 (st_a S 5 x2.toNatClampNeg).toNatClampNeg)))))))) fun tJ_13 => (if (st_a S 9 (st_a S 6 x2.toNatClampNeg).toNatClampNeg) ≤ (st_a S 9 (st_a S 5 x2.toNatClampNeg).toNatClampNeg) then (tJ_13 (st_a S 9 (st_a S 6 x2.toNatClampNeg).toNatClampNeg) S) else (tJ_13 (st_a S 9 (st_a S 5 x2.toNatClampNeg).toNatClampNeg) S))))))))))
def fX5_laysParts_L23 : Nat → Int32 → RSt → Option (RSt)
  | 0, _, _ => none
  | n + 1, x1, S => (if x1 = 0 then (some S) else (ob_2 (fX5_laysParts_L31 1000 (0 : Int32) (0 : Int32) S) fun o_24 S_23 => (fX5_laysParts_L23 n o_24 S_23)))
def fX5_laysParts (S : RSt) : Option (RSt) := (ob_1 (fX5_laysParts_L2 1000 (0 : Int32) S) fun S_4 => (ob_1 (fX5_laysParts_L23 1000 (1 : Int32) S_4) fun S_26 => (some S_26)))
abbrev rmX5_laysParts : Room := { frames := 0, cells := 0, slots := 0, locals := 0 }
theorem nf_X5_laysParts_f94 : Cond.fieldLink RX5 94 "RepeatIndexModel" "part" "[I" ∈ wsX5_laysParts := by decide +kernel
theorem ni_X5_laysParts_X5 : ∀ w ∈ u_ws RX5 TX5 31, w ∈ wsX5_laysParts := by decide +kernel
theorem nf_X5_laysParts_f175 : Cond.fieldLink RX5 175 "RepeatIndexModel" "pairs" "I" ∈ wsX5_laysParts := by decide +kernel
theorem nf_X5_laysParts_f82 : Cond.fieldLink RX5 82 "RepeatIndexModel" "pFrom" "[I" ∈ wsX5_laysParts := by decide +kernel
theorem nf_X5_laysParts_f85 : Cond.fieldLink RX5 85 "RepeatIndexModel" "pTo" "[I" ∈ wsX5_laysParts := by decide +kernel
set_option maxHeartbeats 4000000 in
set_option maxRecDepth 100000 in
theorem kX5_laysParts_L2 {l : Launch} {D : va_G} {cy : Nat → ClassId} {ad : Nat → Nat} {E : ke_T} {p : Program} {e : Env} {s : State} {m : MethodId} {args : Array Value} {below : List Frame} {meth : Method} {c : Code} {A : Nat → Prop} {Q : State → Prop} (C : km_C p s m args meth c cX5_laysParts 5 RX5 wsX5_laysParts none D (mw_t cy) E A) : ∀ (n : Nat) (x1 : Int32) (S : RSt) (S' : RSt) (h : fX5_laysParts_L2 n x1 S = some S') {H : Heap} {locs : List Loc} {ls : Array Slot} (hP : va_P D vwCl ((mw_w cy ad) S) H) (hD : va_D A ((mw_w cy ad) S)) (hS : va_S A s.heap H locs) (hl : lv_has ls 5 [(0, .ref (ad 0)), (1, .int x1)]) (kx0 : ∀ (H : Heap) (locs : List Loc) (ls : Array Slot), va_P D vwCl ((mw_w cy ad) S') H → va_D A ((mw_w cy ad) S') → va_S A s.heap H locs → lv_has ls 5 [(0, .ref (ad 0))] → W p l e rmX5_laysParts s m args below meth c H locs 0 0 Q (F0 m 21 ls [])), W p l e rmX5_laysParts s m args below meth c H locs 0 0 Q (F0 m 2 ls []) := by
  obtain ⟨⟨hx, hb, hml, hown, hts⟩, hr, hlk, hK, hA, hE, hEE⟩ := id C
  intro n
  induction n with
  | zero =>
    intro x1 S S' h
    rw [fX5_laysParts_L2] at h
    cases h
  | succ n ih =>
    intro x1 S S' h H locs ls hP hD hS hl kx0
    rw [fX5_laysParts_L2] at h
    refine lv_iload_n hx hb dX5_laysParts_2 rfl (lv_at hl 1 rfl) ?_
    refine lv_bipush (v := 8) hx hb dX5_laysParts_3 (by decide) ?_
    refine lv_icmp_ge (tgt := 21) hx hb dX5_laysParts_5 (by decide) (fun c_1 => ?_) (fun c_1 => ?_)
    · have h := ob_t c_1 h
      cases h
      exact kx0 _ _ _ hP hD hS (lv_sub hl [0] rfl)
    · have h := ob_f c_1 h
      refine lv_aload_n hx hb dX5_laysParts_8 rfl (lv_at hl 0 rfl) ?_
      refine va_get (D := D) (ci := 5) (v := .ref (ad 10)) (C := RX5) (T := TX5) (N := 31) hx hb hts ni_X5_laysParts_X5 hown hK hP 0 mw_M rfl 24 (by decide) (hts _ nf_X5_laysParts_f94) (fun _ h9 => h9) rfl dX5_laysParts_9 ?_
      refine lv_iload_n hx hb dX5_laysParts_12 rfl (lv_at hl 1 rfl) ?_
      refine lv_iload_n hx hb dX5_laysParts_13 rfl (lv_at hl 1 rfl) ?_
      obtain ⟨hv_2, h⟩ := ob_in_s h
      refine va_iast hx hb hK hP hD hS 10 0 mw_part rfl hv_2 dX5_laysParts_14 (fun H locs hP hD hS => ?_)
      have hP := st_ps mw_s_part hP
      have hD := st_ds mw_s_part hD
      refine lv_iinc (v := x1 + (1 : Int32)) (lv' := [(1, .int (x1 + (1 : Int32))), (0, .ref (ad 0))]) hx hb dX5_laysParts_15 hl (k := 1) rfl (congrArg (fun z => x1 + z) (by decide)) (by decide) rfl (fun ls hl => ?_)
      refine lv_goto (tgt := 2) hx hb dX5_laysParts_18 (by decide) ?_
      exact ih _ _ _ h hP hD hS (lv_sub hl [1, 0] rfl) kx0
set_option maxHeartbeats 4000000 in
set_option maxRecDepth 100000 in
theorem kX5_laysParts_L31 {l : Launch} {D : va_G} {cy : Nat → ClassId} {ad : Nat → Nat} {E : ke_T} {p : Program} {e : Env} {s : State} {m : MethodId} {args : Array Value} {below : List Frame} {meth : Method} {c : Code} {A : Nat → Prop} {Q : State → Prop} (C : km_C p s m args meth c cX5_laysParts 5 RX5 wsX5_laysParts none D (mw_t cy) E A) : ∀ (n : Nat) (x1 : Int32) (x2 : Int32) (S : RSt) (o1 : Int32) (S' : RSt) (h : fX5_laysParts_L31 n x1 x2 S = some (o1, S')) {H : Heap} {locs : List Loc} {ls : Array Slot} (hP : va_P D vwCl ((mw_w cy ad) S) H) (hD : va_D A ((mw_w cy ad) S)) (hS : va_S A s.heap H locs) (hl : lv_has ls 5 [(0, .ref (ad 0)), (1, .int x1), (2, .int x2)]) (kx0 : ∀ (H : Heap) (locs : List Loc) (ls : Array Slot), va_P D vwCl ((mw_w cy ad) S') H → va_D A ((mw_w cy ad) S') → va_S A s.heap H locs → lv_has ls 5 [(0, .ref (ad 0)), (1, .int o1)] → W p l e rmX5_laysParts s m args below meth c H locs 0 0 Q (F0 m 127 ls [])), W p l e rmX5_laysParts s m args below meth c H locs 0 0 Q (F0 m 31 ls []) := by
  obtain ⟨⟨hx, hb, hml, hown, hts⟩, hr, hlk, hK, hA, hE, hEE⟩ := id C
  intro n
  induction n with
  | zero =>
    intro x1 x2 S o1 S' h
    rw [fX5_laysParts_L31] at h
    cases h
  | succ n ih =>
    intro x1 x2 S o1 S' h H locs ls hP hD hS hl kx0
    rw [fX5_laysParts_L31] at h
    refine lv_iload_n hx hb dX5_laysParts_31 rfl (lv_at hl 2 rfl) ?_
    refine lv_aload_n hx hb dX5_laysParts_32 rfl (lv_at hl 0 rfl) ?_
    refine va_get (D := D) (ci := 5) (v := .int (st_i S 13)) (C := RX5) (T := TX5) (N := 31) hx hb hts ni_X5_laysParts_X5 hown hK hP 0 mw_M rfl 23 (by decide) (hts _ nf_X5_laysParts_f175) (fun _ h9 => h9) rfl dX5_laysParts_33 ?_
    refine lv_icmp_ge (tgt := 127) hx hb dX5_laysParts_36 (by decide) (fun c_6 => ?_) (fun c_6 => ?_)
    · have h := ob_t c_6 h
      cases h
      exact kx0 _ _ _ hP hD hS (lv_sub hl [0, 1] rfl)
    · have h := ob_f c_6 h
      refine lv_aload_n hx hb dX5_laysParts_39 rfl (lv_at hl 0 rfl) ?_
      refine va_get (D := D) (ci := 5) (v := .ref (ad 10)) (C := RX5) (T := TX5) (N := 31) hx hb hts ni_X5_laysParts_X5 hown hK hP 0 mw_M rfl 24 (by decide) (hts _ nf_X5_laysParts_f94) (fun _ h9 => h9) rfl dX5_laysParts_40 ?_
      refine lv_aload_n hx hb dX5_laysParts_43 rfl (lv_at hl 0 rfl) ?_
      refine va_get (D := D) (ci := 5) (v := .ref (ad 6)) (C := RX5) (T := TX5) (N := 31) hx hb hts ni_X5_laysParts_X5 hown hK hP 0 mw_M rfl 19 (by decide) (hts _ nf_X5_laysParts_f82) (fun _ h9 => h9) rfl dX5_laysParts_44 ?_
      refine lv_iload_n hx hb dX5_laysParts_47 rfl (lv_at hl 2 rfl) ?_
      obtain ⟨hv_7, h⟩ := ob_in_s h
      refine va_iald hx hb hK hP 6 0 mw_pFrom rfl hv_7 dX5_laysParts_48 ?_
      obtain ⟨hv_8, h⟩ := ob_in_s h
      refine va_iald hx hb hK hP 10 0 mw_part rfl hv_8 dX5_laysParts_49 ?_
      refine lv_istore_n (lv' := [(3, .int (st_a S 9 (st_a S 5 x2.toNatClampNeg).toNatClampNeg)), (0, .ref (ad 0)), (1, .int x1), (2, .int x2)]) hx hb dX5_laysParts_50 rfl hl (by decide) rfl (fun ls hl => ?_)
      refine lv_aload_n hx hb dX5_laysParts_51 rfl (lv_at hl 1 rfl) ?_
      refine va_get (D := D) (ci := 5) (v := .ref (ad 10)) (C := RX5) (T := TX5) (N := 31) hx hb hts ni_X5_laysParts_X5 hown hK hP 0 mw_M rfl 24 (by decide) (hts _ nf_X5_laysParts_f94) (fun _ h9 => h9) rfl dX5_laysParts_52 ?_
      refine lv_aload_n hx hb dX5_laysParts_55 rfl (lv_at hl 1 rfl) ?_
      refine va_get (D := D) (ci := 5) (v := .ref (ad 7)) (C := RX5) (T := TX5) (N := 31) hx hb hts ni_X5_laysParts_X5 hown hK hP 0 mw_M rfl 20 (by decide) (hts _ nf_X5_laysParts_f85) (fun _ h9 => h9) rfl dX5_laysParts_56 ?_
      refine lv_iload_n hx hb dX5_laysParts_59 rfl (lv_at hl 3 rfl) ?_
      obtain ⟨hv_9, h⟩ := ob_in_s h
      refine va_iald hx hb hK hP 7 0 mw_pTo rfl hv_9 dX5_laysParts_60 ?_
      obtain ⟨hv_10, h⟩ := ob_in_s h
      refine va_iald hx hb hK hP 10 0 mw_part rfl hv_10 dX5_laysParts_61 ?_
      refine lv_istore (lv' := [(4, .int (st_a S 9 (st_a S 6 x2.toNatClampNeg).toNatClampNeg)), (3, .int (st_a S 9 (st_a S 5 x2.toNatClampNeg).toNatClampNeg)), (0, .ref (ad 0)), (1, .int x1), (2, .int x2)]) hx hb dX5_laysParts_62 hl (by decide) rfl (fun ls hl => ?_)
      refine lv_iload_n hx hb dX5_laysParts_64 rfl (lv_at hl 1 rfl) ?_
      refine lv_iload hx hb dX5_laysParts_65 (lv_at hl 0 rfl) ?_
      refine lv_icmp_ne (tgt := 73) hx hb dX5_laysParts_67 (by decide) (fun c_11 => ?_) (fun c_11 => ?_)
      · have h := ob_f c_11 h
        refine lv_aload_n hx hb dX5_laysParts_73 rfl (lv_at hl 2 rfl) ?_
        refine va_get (D := D) (ci := 5) (v := .ref (ad 10)) (C := RX5) (T := TX5) (N := 31) hx hb hts ni_X5_laysParts_X5 hown hK hP 0 mw_M rfl 24 (by decide) (hts _ nf_X5_laysParts_f94) (fun _ h9 => h9) rfl dX5_laysParts_74 ?_
        refine lv_aload_n hx hb dX5_laysParts_77 rfl (lv_at hl 2 rfl) ?_
        refine va_get (D := D) (ci := 5) (v := .ref (ad 6)) (C := RX5) (T := TX5) (N := 31) hx hb hts ni_X5_laysParts_X5 hown hK hP 0 mw_M rfl 19 (by decide) (hts _ nf_X5_laysParts_f82) (fun _ h9 => h9) rfl dX5_laysParts_78 ?_
        refine lv_iload_n hx hb dX5_laysParts_81 rfl (lv_at hl 4 rfl) ?_
        obtain ⟨hv_12, h⟩ := ob_in_s h
        refine va_iald hx hb hK hP 6 0 mw_pFrom rfl hv_12 dX5_laysParts_82 ?_
        refine lv_iload_n hx hb dX5_laysParts_83 rfl (lv_at hl 1 rfl) ?_
        refine lv_iload hx hb dX5_laysParts_84 (lv_at hl 0 rfl) ?_
        obtain ⟨tJ_13, hT_20, h⟩ := ob_js h
        have kJ_13 : ∀ (sJ_13_0 : Int32) (S_14 : RSt) (_ : tJ_13 sJ_13_0 S_14 = some (o1, S')) (H : Heap) (locs : List Loc) (ls : Array Slot), va_P D vwCl ((mw_w cy ad) S_14) H → va_D A ((mw_w cy ad) S_14) → va_S A s.heap H locs → lv_has ls 5 [(0, .ref (ad 0)), (2, .int x2), (3, .int (st_a S 9 (st_a S 5 x2.toNatClampNeg).toNatClampNeg)), (4, .int (st_a S 9 (st_a S 6 x2.toNatClampNeg).toNatClampNeg))] → W p l e rmX5_laysParts s m args below meth c H locs 0 0 Q (F0 m 95 ls [.int sJ_13_0, .int (st_a S 5 x2.toNatClampNeg), .ref (ad 10)]) := by
          intro sJ_13_0 S_14 h H locs ls hP hD hS hl
          rw [← hT_20] at h
          obtain ⟨hv_15, h⟩ := ob_in_s h
          refine va_iast hx hb hK hP hD hS 10 0 mw_part rfl hv_15 dX5_laysParts_95 (fun H locs hP hD hS => ?_)
          have hP := st_ps mw_s_part hP
          have hD := st_ds mw_s_part hD
          refine lv_aload_n hx hb dX5_laysParts_96 rfl (lv_at hl 0 rfl) ?_
          refine va_get (D := D) (ci := 5) (v := .ref (ad 10)) (C := RX5) (T := TX5) (N := 31) hx hb hts ni_X5_laysParts_X5 hown hK hP 0 mw_M rfl 24 (by decide) (hts _ nf_X5_laysParts_f94) (fun _ h9 => h9) rfl dX5_laysParts_97 ?_
          refine lv_aload_n hx hb dX5_laysParts_100 rfl (lv_at hl 0 rfl) ?_
          refine va_get (D := D) (ci := 5) (v := .ref (ad 7)) (C := RX5) (T := TX5) (N := 31) hx hb hts ni_X5_laysParts_X5 hown hK hP 0 mw_M rfl 20 (by decide) (hts _ nf_X5_laysParts_f85) (fun _ h9 => h9) rfl dX5_laysParts_101 ?_
          refine lv_iload_n hx hb dX5_laysParts_104 rfl (lv_at hl 1 rfl) ?_
          obtain ⟨hv_16, h⟩ := ob_in_s h
          refine va_iald hx hb hK hP 7 0 mw_pTo rfl hv_16 dX5_laysParts_105 ?_
          refine lv_iload_n hx hb dX5_laysParts_106 rfl (lv_at hl 2 rfl) ?_
          refine lv_iload hx hb dX5_laysParts_107 (lv_at hl 3 rfl) ?_
          refine lv_icmp_ge (tgt := 116) hx hb dX5_laysParts_109 (by decide) (fun c_17 => ?_) (fun c_17 => ?_)
          · have h := ob_t c_17 h
            refine lv_iload hx hb dX5_laysParts_116 (lv_at hl 3 rfl) ?_
            obtain ⟨hv_18, h⟩ := ob_in_s h
            refine va_iast hx hb hK hP hD hS 10 0 mw_part rfl hv_18 dX5_laysParts_118 (fun H locs hP hD hS => ?_)
            have hP := st_ps mw_s_part hP
            have hD := st_ds mw_s_part hD
            refine lv_iconst (v := 1) hx hb dX5_laysParts_119 (by decide) ?_
            refine lv_istore_n (lv' := [(1, .int (1 : Int32)), (0, .ref (ad 0)), (2, .int x2), (3, .int (st_a S 9 (st_a S 5 x2.toNatClampNeg).toNatClampNeg)), (4, .int (st_a S 9 (st_a S 6 x2.toNatClampNeg).toNatClampNeg))]) hx hb dX5_laysParts_120 rfl hl (by decide) rfl (fun ls hl => ?_)
            refine lv_iinc (v := x2 + (1 : Int32)) (lv' := [(2, .int (x2 + (1 : Int32))), (1, .int (1 : Int32)), (0, .ref (ad 0)), (3, .int (st_a S 9 (st_a S 5 x2.toNatClampNeg).toNatClampNeg)), (4, .int (st_a S 9 (st_a S 6 x2.toNatClampNeg).toNatClampNeg))]) hx hb dX5_laysParts_121 hl (k := 2) rfl (congrArg (fun z => x2 + z) (by decide)) (by decide) rfl (fun ls hl => ?_)
            refine lv_goto (tgt := 31) hx hb dX5_laysParts_124 (by decide) ?_
            exact ih _ _ _ _ _ h hP hD hS (lv_sub hl [2, 1, 0] rfl) kx0
          · have h := ob_f c_17 h
            refine lv_iload_n hx hb dX5_laysParts_112 rfl (lv_at hl 2 rfl) ?_
            refine lv_goto (tgt := 118) hx hb dX5_laysParts_113 (by decide) ?_
            obtain ⟨hv_19, h⟩ := ob_in_s h
            refine va_iast hx hb hK hP hD hS 10 0 mw_part rfl hv_19 dX5_laysParts_118 (fun H locs hP hD hS => ?_)
            have hP := st_ps mw_s_part hP
            have hD := st_ds mw_s_part hD
            refine lv_iconst (v := 1) hx hb dX5_laysParts_119 (by decide) ?_
            refine lv_istore_n (lv' := [(1, .int (1 : Int32)), (0, .ref (ad 0)), (2, .int x2), (3, .int (st_a S 9 (st_a S 5 x2.toNatClampNeg).toNatClampNeg)), (4, .int (st_a S 9 (st_a S 6 x2.toNatClampNeg).toNatClampNeg))]) hx hb dX5_laysParts_120 rfl hl (by decide) rfl (fun ls hl => ?_)
            refine lv_iinc (v := x2 + (1 : Int32)) (lv' := [(2, .int (x2 + (1 : Int32))), (1, .int (1 : Int32)), (0, .ref (ad 0)), (3, .int (st_a S 9 (st_a S 5 x2.toNatClampNeg).toNatClampNeg)), (4, .int (st_a S 9 (st_a S 6 x2.toNatClampNeg).toNatClampNeg))]) hx hb dX5_laysParts_121 hl (k := 2) rfl (congrArg (fun z => x2 + z) (by decide)) (by decide) rfl (fun ls hl => ?_)
            refine lv_goto (tgt := 31) hx hb dX5_laysParts_124 (by decide) ?_
            exact ih _ _ _ _ _ h hP hD hS (lv_sub hl [2, 1, 0] rfl) kx0
        refine lv_icmp_ge (tgt := 93) hx hb dX5_laysParts_86 (by decide) (fun c_21 => ?_) (fun c_21 => ?_)
        · have h := ob_t c_21 h
          refine lv_iload hx hb dX5_laysParts_93 (lv_at hl 0 rfl) ?_
          exact kJ_13 _ _ h _ _ _ hP hD hS (lv_sub hl [2, 4, 1, 0] rfl)
        · have h := ob_f c_21 h
          refine lv_iload_n hx hb dX5_laysParts_89 rfl (lv_at hl 1 rfl) ?_
          refine lv_goto (tgt := 95) hx hb dX5_laysParts_90 (by decide) ?_
          exact kJ_13 _ _ h _ _ _ hP hD hS (lv_sub hl [2, 4, 1, 0] rfl)
      · have h := ob_t c_11 h
        refine lv_goto (tgt := 121) hx hb dX5_laysParts_70 (by decide) ?_
        refine lv_iinc (v := x2 + (1 : Int32)) (lv' := [(2, .int (x2 + (1 : Int32))), (4, .int (st_a S 9 (st_a S 6 x2.toNatClampNeg).toNatClampNeg)), (3, .int (st_a S 9 (st_a S 5 x2.toNatClampNeg).toNatClampNeg)), (0, .ref (ad 0)), (1, .int x1)]) hx hb dX5_laysParts_121 hl (k := 4) rfl (congrArg (fun z => x2 + z) (by decide)) (by decide) rfl (fun ls hl => ?_)
        refine lv_goto (tgt := 31) hx hb dX5_laysParts_124 (by decide) ?_
        exact ih _ _ _ _ _ h hP hD hS (lv_sub hl [3, 4, 0] rfl) kx0
set_option maxHeartbeats 4000000 in
set_option maxRecDepth 100000 in
theorem kX5_laysParts_L23 {l : Launch} {D : va_G} {cy : Nat → ClassId} {ad : Nat → Nat} {E : ke_T} {p : Program} {e : Env} {s : State} {m : MethodId} {args : Array Value} {below : List Frame} {meth : Method} {c : Code} {A : Nat → Prop} {Q : State → Prop} (C : km_C p s m args meth c cX5_laysParts 5 RX5 wsX5_laysParts none D (mw_t cy) E A) : ∀ (n : Nat) (x1 : Int32) (S : RSt) (S' : RSt) (h : fX5_laysParts_L23 n x1 S = some S') {H : Heap} {locs : List Loc} {ls : Array Slot} (hP : va_P D vwCl ((mw_w cy ad) S) H) (hD : va_D A ((mw_w cy ad) S)) (hS : va_S A s.heap H locs) (hl : lv_has ls 5 [(0, .ref (ad 0)), (1, .int x1)]) (kx0 : ∀ (H : Heap) (locs : List Loc) (ls : Array Slot), va_P D vwCl ((mw_w cy ad) S') H → va_D A ((mw_w cy ad) S') → va_S A s.heap H locs → lv_has ls 5 [] → W p l e rmX5_laysParts s m args below meth c H locs 0 0 Q (F0 m 130 ls [])), W p l e rmX5_laysParts s m args below meth c H locs 0 0 Q (F0 m 23 ls []) := by
  obtain ⟨⟨hx, hb, hml, hown, hts⟩, hr, hlk, hK, hA, hE, hEE⟩ := id C
  intro n
  induction n with
  | zero =>
    intro x1 S S' h
    rw [fX5_laysParts_L23] at h
    cases h
  | succ n ih =>
    intro x1 S S' h H locs ls hP hD hS hl kx0
    rw [fX5_laysParts_L23] at h
    refine lv_iload_n hx hb dX5_laysParts_23 rfl (lv_at hl 1 rfl) ?_
    refine lv_if_eq (tgt := 130) hx hb dX5_laysParts_24 (by decide) (fun c_5 => ?_) (fun c_5 => ?_)
    · have h := ob_t c_5 h
      cases h
      exact kx0 _ _ _ hP hD hS (lv_sub hl [] rfl)
    · have h := ob_f c_5 h
      refine lv_iconst (v := 0) hx hb dX5_laysParts_27 (by decide) ?_
      refine lv_istore_n (lv' := [(1, .int (0 : Int32)), (0, .ref (ad 0))]) hx hb dX5_laysParts_28 rfl hl (by decide) rfl (fun ls hl => ?_)
      refine lv_iconst (v := 0) hx hb dX5_laysParts_29 (by decide) ?_
      refine lv_istore_n (lv' := [(2, .int (0 : Int32)), (1, .int (0 : Int32)), (0, .ref (ad 0))]) hx hb dX5_laysParts_30 rfl hl (by decide) rfl (fun ls hl => ?_)
      obtain ⟨o_24, S_23, hq_22, h⟩ := ob_2s h
      refine kX5_laysParts_L31  C _ _ _ _ _ _ hq_22 hP hD hS (lv_sub hl [2, 1, 0] rfl) (fun H locs ls hP hD hS hl => ?_)
      refine lv_goto (tgt := 23) hx hb dX5_laysParts_127 (by decide) ?_
      exact ih _ _ _ h hP hD hS (lv_sub hl [0, 1] rfl) kx0
set_option maxHeartbeats 4000000 in
set_option maxRecDepth 100000 in
theorem kX5_laysParts {l : Launch} {D : va_G} {cy : Nat → ClassId} {ad : Nat → Nat} {E : ke_T} (hEE : km_E E) {S : RSt} {S' : RSt} (h : fX5_laysParts S = some S') : km_v l D (mw_t cy) (mw_w cy ad) E yX5_laysParts wsX5_laysParts rmX5_laysParts [.ref (ad 0)] S S' := by
  refine km_v_in (cc := cX5_laysParts) (nL := 5) hEE (by decide) rfl (Nat.le_of_ble_eq_true rfl) ?_
  intro p e s m below meth c A H ls C hP hD hS hl
  have C : km_C p s m _ meth c cX5_laysParts 5 RX5 wsX5_laysParts none D (mw_t cy) E A := C
  obtain ⟨⟨hx, hb, hml, hown, hts⟩, hr, hlk, hK, hA, hE, hEE⟩ := id C
  have hl : lv_has ls 5 [(0, .ref (ad 0))] := hl
  unfold fX5_laysParts at h
  refine lv_iconst (v := 0) hx hb dX5_laysParts_0 (by decide) ?_
  refine lv_istore_n (lv' := [(1, .int (0 : Int32)), (0, .ref (ad 0))]) hx hb dX5_laysParts_1 rfl hl (by decide) rfl (fun ls hl => ?_)
  obtain ⟨S_4, hq_3, h⟩ := ob_1s h
  refine kX5_laysParts_L2  C _ _ _ _ hq_3 hP hD hS (lv_sub hl [1, 0] rfl) (fun H locs ls hP hD hS hl => ?_)
  refine lv_iconst (v := 1) hx hb dX5_laysParts_21 (by decide) ?_
  refine lv_istore_n (lv' := [(1, .int (1 : Int32)), (0, .ref (ad 0))]) hx hb dX5_laysParts_22 rfl hl (by decide) rfl (fun ls hl => ?_)
  obtain ⟨S_26, hq_25, h⟩ := ob_1s h
  refine kX5_laysParts_L23  C _ _ _ _ hq_25 hP hD hS (lv_sub hl [1, 0] rfl) (fun H locs ls hP hD hS hl => ?_)
  obtain rfl := ob_v h
  exact km_vret C hP hD hS dX5_laysParts_130
def fX5_unknownOf_L2 : Nat → Int32 → Int32 → RSt → Option ((Int32 × RSt) ⊕ ((RSt)))
  | 0, _, _, _ => none
  | n + 1, x1, x2, S => (if (st_i S 14) ≤ x2 then (some (.inr S)) else (ob_in x2 8 (if (st_a S 10 x2.toNatClampNeg) = x1 then (some (.inl (x2, S))) else (fX5_unknownOf_L2 n x1 (x2 + (1 : Int32)) S))))
def fX5_unknownOf (x1 : Int32) (S : RSt) : Option (Int32 × RSt) := (ob_1 (fX5_unknownOf_L2 1000 x1 (0 : Int32) S) fun Z_6 => ob_s2 Z_6 (ob_u2 fun o_7 S_8 => (some (o_7, S_8))) (fun S_10 => (some ((-1 : Int32), S_10))))
abbrev rmX5_unknownOf : Room := { frames := 0, cells := 0, slots := 0, locals := 0 }
theorem nf_X5_unknownOf_f184 : Cond.fieldLink RX5 184 "RepeatIndexModel" "many" "I" ∈ wsX5_unknownOf := by decide +kernel
theorem ni_X5_unknownOf_X5 : ∀ w ∈ u_ws RX5 TX5 31, w ∈ wsX5_unknownOf := by decide +kernel
theorem nf_X5_unknownOf_f97 : Cond.fieldLink RX5 97 "RepeatIndexModel" "unknown" "[I" ∈ wsX5_unknownOf := by decide +kernel
set_option maxHeartbeats 4000000 in
set_option maxRecDepth 100000 in
theorem kX5_unknownOf_L2 {l : Launch} {D : va_G} {cy : Nat → ClassId} {ad : Nat → Nat} {E : ke_T} {p : Program} {e : Env} {s : State} {m : MethodId} {args : Array Value} {below : List Frame} {meth : Method} {c : Code} {A : Nat → Prop} {Q : State → Prop} (C : km_C p s m args meth c cX5_unknownOf 3 RX5 wsX5_unknownOf (some .int) D (mw_t cy) E A) : ∀ (n : Nat) (x1 : Int32) (x2 : Int32) (S : RSt) (Z : (Int32 × RSt) ⊕ ((RSt))) (h : fX5_unknownOf_L2 n x1 x2 S = some Z) {H : Heap} {locs : List Loc} {ls : Array Slot} (hP : va_P D vwCl ((mw_w cy ad) S) H) (hD : va_D A ((mw_w cy ad) S)) (hS : va_S A s.heap H locs) (hl : lv_has ls 3 [(0, .ref (ad 0)), (1, .int x1), (2, .int x2)]) (kx0 : ∀ (o2 : Int32) (S' : RSt), Z = .inl (o2, S') → ∀ (H : Heap) (locs : List Loc) (ls : Array Slot), va_P D vwCl ((mw_w cy ad) S') H → va_D A ((mw_w cy ad) S') → va_S A s.heap H locs → lv_has ls 3 [(2, .int o2)] → W p l e rmX5_unknownOf s m args below meth c H locs 0 0 Q (F0 m 20 ls [])) (kx1 : ∀ (S' : RSt), Z = .inr S' → ∀ (H : Heap) (locs : List Loc) (ls : Array Slot), va_P D vwCl ((mw_w cy ad) S') H → va_D A ((mw_w cy ad) S') → va_S A s.heap H locs → lv_has ls 3 [] → W p l e rmX5_unknownOf s m args below meth c H locs 0 0 Q (F0 m 28 ls [])), W p l e rmX5_unknownOf s m args below meth c H locs 0 0 Q (F0 m 2 ls []) := by
  obtain ⟨⟨hx, hb, hml, hown, hts⟩, hr, hlk, hK, hA, hE, hEE⟩ := id C
  intro n
  induction n with
  | zero =>
    intro x1 x2 S Z h
    rw [fX5_unknownOf_L2] at h
    cases h
  | succ n ih =>
    intro x1 x2 S Z h H locs ls hP hD hS hl kx0 kx1
    rw [fX5_unknownOf_L2] at h
    refine lv_iload_n hx hb dX5_unknownOf_2 rfl (lv_at hl 2 rfl) ?_
    refine lv_aload_n hx hb dX5_unknownOf_3 rfl (lv_at hl 0 rfl) ?_
    refine va_get (D := D) (ci := 5) (v := .int (st_i S 14)) (C := RX5) (T := TX5) (N := 31) hx hb hts ni_X5_unknownOf_X5 hown hK hP 0 mw_M rfl 29 (by decide) (hts _ nf_X5_unknownOf_f184) (fun _ h9 => h9) rfl dX5_unknownOf_4 ?_
    refine lv_icmp_ge (tgt := 28) hx hb dX5_unknownOf_7 (by decide) (fun c_1 => ?_) (fun c_1 => ?_)
    · have h := ob_t c_1 h
      exact kx1 _ (ob_v h).symm _ _ _ hP hD hS (lv_sub hl [] rfl)
    · have h := ob_f c_1 h
      refine lv_aload_n hx hb dX5_unknownOf_10 rfl (lv_at hl 0 rfl) ?_
      refine va_get (D := D) (ci := 5) (v := .ref (ad 11)) (C := RX5) (T := TX5) (N := 31) hx hb hts ni_X5_unknownOf_X5 hown hK hP 0 mw_M rfl 25 (by decide) (hts _ nf_X5_unknownOf_f97) (fun _ h9 => h9) rfl dX5_unknownOf_11 ?_
      refine lv_iload_n hx hb dX5_unknownOf_14 rfl (lv_at hl 2 rfl) ?_
      obtain ⟨hv_2, h⟩ := ob_in_s h
      refine va_iald hx hb hK hP 11 0 mw_unknown rfl hv_2 dX5_unknownOf_15 ?_
      refine lv_iload_n hx hb dX5_unknownOf_16 rfl (lv_at hl 1 rfl) ?_
      refine lv_icmp_ne (tgt := 22) hx hb dX5_unknownOf_17 (by decide) (fun c_3 => ?_) (fun c_3 => ?_)
      · have h := ob_f c_3 h
        refine lv_iinc (v := x2 + (1 : Int32)) (lv' := [(2, .int (x2 + (1 : Int32))), (0, .ref (ad 0)), (1, .int x1)]) hx hb dX5_unknownOf_22 hl (k := 2) rfl (congrArg (fun z => x2 + z) (by decide)) (by decide) rfl (fun ls hl => ?_)
        refine lv_goto (tgt := 2) hx hb dX5_unknownOf_25 (by decide) ?_
        exact ih _ _ _ _ h hP hD hS (lv_sub hl [1, 2, 0] rfl) kx0 kx1
      · have h := ob_t c_3 h
        exact kx0 _ _ (ob_v h).symm _ _ _ hP hD hS (lv_sub hl [2] rfl)
set_option maxHeartbeats 4000000 in
set_option maxRecDepth 100000 in
theorem kX5_unknownOf {l : Launch} {D : va_G} {cy : Nat → ClassId} {ad : Nat → Nat} {E : ke_T} (hEE : km_E E) {x1 : Int32} {S : RSt} {r : Int32} {S' : RSt} (h : fX5_unknownOf x1 S = some (r, S')) : km_i l D (mw_t cy) (mw_w cy ad) E yX5_unknownOf wsX5_unknownOf rmX5_unknownOf [.ref (ad 0), .int x1] S r S' := by
  refine km_i_in (cc := cX5_unknownOf) (nL := 3) hEE (by decide) rfl (Nat.le_of_ble_eq_true rfl) ?_
  intro p e s m below meth c A H ls C hP hD hS hl
  have C : km_C p s m _ meth c cX5_unknownOf 3 RX5 wsX5_unknownOf (some .int) D (mw_t cy) E A := C
  obtain ⟨⟨hx, hb, hml, hown, hts⟩, hr, hlk, hK, hA, hE, hEE⟩ := id C
  have hl : lv_has ls 3 [(0, .ref (ad 0)), (1, .int x1)] := hl
  unfold fX5_unknownOf at h
  refine lv_iconst (v := 0) hx hb dX5_unknownOf_0 (by decide) ?_
  refine lv_istore_n (lv' := [(2, .int (0 : Int32)), (0, .ref (ad 0)), (1, .int x1)]) hx hb dX5_unknownOf_1 rfl hl (by decide) rfl (fun ls hl => ?_)
  obtain ⟨Z_6, hq_4, h⟩ := ob_1s h
  refine kX5_unknownOf_L2  C _ _ _ _ _ hq_4 hP hD hS (lv_sub hl [1, 2, 0] rfl) (fun o_7 S_8 ee_9 H locs ls hP hD hS hl => ?_) (fun S_10 ee_11 H locs ls hP hD hS hl => ?_)
  · subst ee_9
    have h := ob_s2_0 h
    have h := ob_u2s h
    refine lv_iload_n hx hb dX5_unknownOf_20 rfl (lv_at hl 0 rfl) ?_
    obtain ⟨rfl, rfl⟩ := ob_w h
    exact km_iret C hP hD hS dX5_unknownOf_21
  · subst ee_11
    have h := ob_s2_1 h
    refine lv_iconst (v := -1) hx hb dX5_unknownOf_28 (by decide) ?_
    obtain ⟨rfl, rfl⟩ := ob_w h
    exact km_iret C hP hD hS dX5_unknownOf_29
def fX5_addsTo (x1 : Int32) (x2 : Int32) (x3 : Int64) (S : RSt) : Option (RSt) := (if x1 = (-1 : Int32) then (some S) else (if x2 = (-1 : Int32) then (some S) else (ob_in (((14 : Int32) * x1) + x2) 98 (ob_in (((14 : Int32) * x1) + x2) 98 (some (st_sg S 0 (((14 : Int32) * x1) + x2).toNatClampNeg ((st_g S 0 (((14 : Int32) * x1) + x2).toNatClampNeg) + x3)))))))
abbrev rmX5_addsTo : Room := { frames := 0, cells := 0, slots := 0, locals := 0 }
theorem nf_X5_addsTo_f100 : Cond.fieldLink RX5 100 "RepeatIndexModel" "rows" "[J" ∈ wsX5_addsTo := by decide +kernel
theorem ni_X5_addsTo_X5 : ∀ w ∈ u_ws RX5 TX5 31, w ∈ wsX5_addsTo := by decide +kernel
set_option maxHeartbeats 4000000 in
set_option maxRecDepth 100000 in
theorem kX5_addsTo {l : Launch} {D : va_G} {cy : Nat → ClassId} {ad : Nat → Nat} {E : ke_T} (hEE : km_E E) {x1 : Int32} {x2 : Int32} {x3 : Int64} {S : RSt} {S' : RSt} (h : fX5_addsTo x1 x2 x3 S = some S') : km_v l D (mw_t cy) (mw_w cy ad) E yX5_addsTo wsX5_addsTo rmX5_addsTo [.ref (ad 0), .int x1, .int x2, .long x3] S S' := by
  refine km_v_in (cc := cX5_addsTo) (nL := 5) hEE (by decide) rfl (Nat.le_of_ble_eq_true rfl) ?_
  intro p e s m below meth c A H ls C hP hD hS hl
  have C : km_C p s m _ meth c cX5_addsTo 5 RX5 wsX5_addsTo none D (mw_t cy) E A := C
  obtain ⟨⟨hx, hb, hml, hown, hts⟩, hr, hlk, hK, hA, hE, hEE⟩ := id C
  have hl : lv_has ls 5 [(0, .ref (ad 0)), (1, .int x1), (2, .int x2), (3, .long x3)] := hl
  unfold fX5_addsTo at h
  refine lv_iload_n hx hb dX5_addsTo_0 rfl (lv_at hl 1 rfl) ?_
  refine lv_iconst (v := -1) hx hb dX5_addsTo_1 (by decide) ?_
  refine lv_icmp_eq (tgt := 25) hx hb dX5_addsTo_2 (by decide) (fun c_1 => ?_) (fun c_1 => ?_)
  · have h := ob_t c_1 h
    obtain rfl := ob_v h
    exact km_vret C hP hD hS dX5_addsTo_25
  · have h := ob_f c_1 h
    refine lv_iload_n hx hb dX5_addsTo_5 rfl (lv_at hl 2 rfl) ?_
    refine lv_iconst (v := -1) hx hb dX5_addsTo_6 (by decide) ?_
    refine lv_icmp_eq (tgt := 25) hx hb dX5_addsTo_7 (by decide) (fun c_2 => ?_) (fun c_2 => ?_)
    · have h := ob_t c_2 h
      obtain rfl := ob_v h
      exact km_vret C hP hD hS dX5_addsTo_25
    · have h := ob_f c_2 h
      refine lv_aload_n hx hb dX5_addsTo_10 rfl (lv_at hl 0 rfl) ?_
      refine va_get (D := D) (ci := 5) (v := .ref (ad 12)) (C := RX5) (T := TX5) (N := 31) hx hb hts ni_X5_addsTo_X5 hown hK hP 0 mw_M rfl 26 (by decide) (hts _ nf_X5_addsTo_f100) (fun _ h9 => h9) rfl dX5_addsTo_11 ?_
      refine lv_bipush (v := 14) hx hb dX5_addsTo_14 (by decide) ?_
      refine lv_iload_n hx hb dX5_addsTo_16 rfl (lv_at hl 1 rfl) ?_
      refine lv_imul hx hb dX5_addsTo_17 ?_
      refine lv_iload_n hx hb dX5_addsTo_18 rfl (lv_at hl 2 rfl) ?_
      refine lv_iadd hx hb dX5_addsTo_19 ?_
      refine lv_dup2_11 hx hb dX5_addsTo_20 rfl rfl ?_
      obtain ⟨hv_3, h⟩ := ob_in_s h
      refine va_lald hx hb hK hP 12 1 mw_rows rfl hv_3 dX5_addsTo_21 ?_
      refine lv_lload_n hx hb dX5_addsTo_22 rfl (lv_at hl 3 rfl) ?_
      refine lv_ladd hx hb dX5_addsTo_23 ?_
      obtain ⟨hv_4, h⟩ := ob_in_s h
      refine va_last hx hb hK hP hD hS 12 1 mw_rows rfl hv_4 dX5_addsTo_24 (fun H locs hP hD hS => ?_)
      have hP := st_ps mw_s_rows hP
      have hD := st_ds mw_s_rows hD
      obtain rfl := ob_v h
      exact km_vret C hP hD hS dX5_addsTo_25
def fX5_inverts_L65 : Nat → Int32 → Int64 → Int32 → Int64 → Int32 → RSt → Option (RSt)
  | 0, _, _, _, _, _, _ => none
  | n + 1, x1, x2, x4, x5, x7, S => (if (14 : Int32) ≤ x7 then (some S) else (ob_in (((14 : Int32) * x4) + x7) 98 (ob_in (((14 : Int32) * x1) + x7) 98 (ob_nz (st_j S 1) (ob_in (((14 : Int32) * x4) + x7) 98 (fX5_inverts_L65 n x1 x2 x4 x5 (x7 + (1 : Int32)) (st_sg S 0 (((14 : Int32) * x4) + x7).toNatClampNeg (((x2 * (st_g S 0 (((14 : Int32) * x4) + x7).toNatClampNeg)) - (x5 * (st_g S 0 (((14 : Int32) * x1) + x7).toNatClampNeg))) / (st_j S 1)))))))))
def fX5_inverts_L30 : Nat → Int32 → Int64 → Int32 → RSt → Option (RSt)
  | 0, _, _, _, _ => none
  | n + 1, x1, x2, x4, S => (if (st_i S 14) ≤ x4 then (some S) else (if x4 = x1 then (fX5_inverts_L30 n x1 x2 (x4 + (1 : Int32)) S) else (ob_in (((14 : Int32) * x4) + x1) 98 (ob_1 (fX5_inverts_L65 1000 x1 x2 x4 (st_g S 0 (((14 : Int32) * x4) + x1).toNatClampNeg) (0 : Int32) S) fun S_12 => (fX5_inverts_L30 n x1 x2 (x4 + (1 : Int32)) S_12)))))
def fX5_inverts_L7 : Nat → Int32 → RSt → Option (RSt)
  | 0, _, _ => none
  | n + 1, x1, S => (if (st_i S 14) ≤ x1 then (some S) else (ob_in (((14 : Int32) * x1) + x1) 98 (ob_1 (fX5_inverts_L30 1000 x1 (st_g S 0 (((14 : Int32) * x1) + x1).toNatClampNeg) (0 : Int32) S) fun S_14 => (fX5_inverts_L7 n (x1 + (1 : Int32)) (st_sj S_14 1 (st_g S 0 (((14 : Int32) * x1) + x1).toNatClampNeg))))))
def fX5_inverts (S : RSt) : Option (RSt) := (ob_1 (fX5_inverts_L7 1000 (0 : Int32) (st_sj S 1 (1 : Int64))) fun S_16 => (some S_16))
abbrev rmX5_inverts : Room := { frames := 0, cells := 0, slots := 0, locals := 0 }
theorem nf_X5_inverts_f203 : Cond.fieldLink RX5 203 "RepeatIndexModel" "lower" "J" ∈ wsX5_inverts := by decide +kernel
theorem ni_X5_inverts_X5 : ∀ w ∈ u_ws RX5 TX5 31, w ∈ wsX5_inverts := by decide +kernel
theorem nf_X5_inverts_f184 : Cond.fieldLink RX5 184 "RepeatIndexModel" "many" "I" ∈ wsX5_inverts := by decide +kernel
theorem nf_X5_inverts_f100 : Cond.fieldLink RX5 100 "RepeatIndexModel" "rows" "[J" ∈ wsX5_inverts := by decide +kernel
set_option maxHeartbeats 4000000 in
set_option maxRecDepth 100000 in
theorem kX5_inverts_L65 {l : Launch} {D : va_G} {cy : Nat → ClassId} {ad : Nat → Nat} {E : ke_T} {p : Program} {e : Env} {s : State} {m : MethodId} {args : Array Value} {below : List Frame} {meth : Method} {c : Code} {A : Nat → Prop} {Q : State → Prop} (C : km_C p s m args meth c cX5_inverts 8 RX5 wsX5_inverts none D (mw_t cy) E A) : ∀ (n : Nat) (x1 : Int32) (x2 : Int64) (x4 : Int32) (x5 : Int64) (x7 : Int32) (S : RSt) (S' : RSt) (h : fX5_inverts_L65 n x1 x2 x4 x5 x7 S = some S') {H : Heap} {locs : List Loc} {ls : Array Slot} (hP : va_P D vwCl ((mw_w cy ad) S) H) (hD : va_D A ((mw_w cy ad) S)) (hS : va_S A s.heap H locs) (hl : lv_has ls 8 [(0, .ref (ad 0)), (1, .int x1), (2, .long x2), (4, .int x4), (5, .long x5), (7, .int x7)]) (kx0 : ∀ (H : Heap) (locs : List Loc) (ls : Array Slot), va_P D vwCl ((mw_w cy ad) S') H → va_D A ((mw_w cy ad) S') → va_S A s.heap H locs → lv_has ls 8 [(0, .ref (ad 0)), (1, .int x1), (2, .long x2), (4, .int x4)] → W p l e rmX5_inverts s m args below meth c H locs 0 0 Q (F0 m 127 ls [])), W p l e rmX5_inverts s m args below meth c H locs 0 0 Q (F0 m 65 ls []) := by
  obtain ⟨⟨hx, hb, hml, hown, hts⟩, hr, hlk, hK, hA, hE, hEE⟩ := id C
  intro n
  induction n with
  | zero =>
    intro x1 x2 x4 x5 x7 S S' h
    rw [fX5_inverts_L65] at h
    cases h
  | succ n ih =>
    intro x1 x2 x4 x5 x7 S S' h H locs ls hP hD hS hl kx0
    rw [fX5_inverts_L65] at h
    refine lv_iload hx hb dX5_inverts_65 (lv_at hl 5 rfl) ?_
    refine lv_bipush (v := 14) hx hb dX5_inverts_67 (by decide) ?_
    refine lv_icmp_ge (tgt := 127) hx hb dX5_inverts_69 (by decide) (fun c_6 => ?_) (fun c_6 => ?_)
    · have h := ob_t c_6 h
      cases h
      exact kx0 _ _ _ hP hD hS (lv_sub hl [0, 1, 2, 3] rfl)
    · have h := ob_f c_6 h
      refine lv_aload_n hx hb dX5_inverts_72 rfl (lv_at hl 0 rfl) ?_
      refine va_get (D := D) (ci := 5) (v := .ref (ad 12)) (C := RX5) (T := TX5) (N := 31) hx hb hts ni_X5_inverts_X5 hown hK hP 0 mw_M rfl 26 (by decide) (hts _ nf_X5_inverts_f100) (fun _ h9 => h9) rfl dX5_inverts_73 ?_
      refine lv_bipush (v := 14) hx hb dX5_inverts_76 (by decide) ?_
      refine lv_iload hx hb dX5_inverts_78 (lv_at hl 3 rfl) ?_
      refine lv_imul hx hb dX5_inverts_80 ?_
      refine lv_iload hx hb dX5_inverts_81 (lv_at hl 5 rfl) ?_
      refine lv_iadd hx hb dX5_inverts_83 ?_
      refine lv_lload_n hx hb dX5_inverts_84 rfl (lv_at hl 2 rfl) ?_
      refine lv_aload_n hx hb dX5_inverts_85 rfl (lv_at hl 0 rfl) ?_
      refine va_get (D := D) (ci := 5) (v := .ref (ad 12)) (C := RX5) (T := TX5) (N := 31) hx hb hts ni_X5_inverts_X5 hown hK hP 0 mw_M rfl 26 (by decide) (hts _ nf_X5_inverts_f100) (fun _ h9 => h9) rfl dX5_inverts_86 ?_
      refine lv_bipush (v := 14) hx hb dX5_inverts_89 (by decide) ?_
      refine lv_iload hx hb dX5_inverts_91 (lv_at hl 3 rfl) ?_
      refine lv_imul hx hb dX5_inverts_93 ?_
      refine lv_iload hx hb dX5_inverts_94 (lv_at hl 5 rfl) ?_
      refine lv_iadd hx hb dX5_inverts_96 ?_
      obtain ⟨hv_7, h⟩ := ob_in_s h
      refine va_lald hx hb hK hP 12 1 mw_rows rfl hv_7 dX5_inverts_97 ?_
      refine lv_lmul hx hb dX5_inverts_98 ?_
      refine lv_lload hx hb dX5_inverts_99 (lv_at hl 4 rfl) ?_
      refine lv_aload_n hx hb dX5_inverts_101 rfl (lv_at hl 0 rfl) ?_
      refine va_get (D := D) (ci := 5) (v := .ref (ad 12)) (C := RX5) (T := TX5) (N := 31) hx hb hts ni_X5_inverts_X5 hown hK hP 0 mw_M rfl 26 (by decide) (hts _ nf_X5_inverts_f100) (fun _ h9 => h9) rfl dX5_inverts_102 ?_
      refine lv_bipush (v := 14) hx hb dX5_inverts_105 (by decide) ?_
      refine lv_iload_n hx hb dX5_inverts_107 rfl (lv_at hl 1 rfl) ?_
      refine lv_imul hx hb dX5_inverts_108 ?_
      refine lv_iload hx hb dX5_inverts_109 (lv_at hl 5 rfl) ?_
      refine lv_iadd hx hb dX5_inverts_111 ?_
      obtain ⟨hv_8, h⟩ := ob_in_s h
      refine va_lald hx hb hK hP 12 1 mw_rows rfl hv_8 dX5_inverts_112 ?_
      refine lv_lmul hx hb dX5_inverts_113 ?_
      refine lv_lsub hx hb dX5_inverts_114 ?_
      refine lv_aload_n hx hb dX5_inverts_115 rfl (lv_at hl 0 rfl) ?_
      refine va_get (D := D) (ci := 5) (v := .long (st_j S 1)) (C := RX5) (T := TX5) (N := 31) hx hb hts ni_X5_inverts_X5 hown hK hP 0 mw_M rfl 30 (by decide) (hts _ nf_X5_inverts_f203) (fun _ h9 => h9) rfl dX5_inverts_116 ?_
      obtain ⟨hv_9, h⟩ := ob_nz_s h
      refine lv_ldiv hx hb dX5_inverts_119 hv_9 ?_
      obtain ⟨hv_10, h⟩ := ob_in_s h
      refine va_last hx hb hK hP hD hS 12 1 mw_rows rfl hv_10 dX5_inverts_120 (fun H locs hP hD hS => ?_)
      have hP := st_ps mw_s_rows hP
      have hD := st_ds mw_s_rows hD
      refine lv_iinc (v := x7 + (1 : Int32)) (lv' := [(7, .int (x7 + (1 : Int32))), (0, .ref (ad 0)), (1, .int x1), (2, .long x2), (4, .int x4), (5, .long x5)]) hx hb dX5_inverts_121 hl (k := 5) rfl (congrArg (fun z => x7 + z) (by decide)) (by decide) rfl (fun ls hl => ?_)
      refine lv_goto (tgt := 65) hx hb dX5_inverts_124 (by decide) ?_
      exact ih _ _ _ _ _ _ _ h hP hD hS (lv_sub hl [1, 2, 3, 4, 5, 0] rfl) kx0
set_option maxHeartbeats 4000000 in
set_option maxRecDepth 100000 in
theorem kX5_inverts_L30 {l : Launch} {D : va_G} {cy : Nat → ClassId} {ad : Nat → Nat} {E : ke_T} {p : Program} {e : Env} {s : State} {m : MethodId} {args : Array Value} {below : List Frame} {meth : Method} {c : Code} {A : Nat → Prop} {Q : State → Prop} (C : km_C p s m args meth c cX5_inverts 8 RX5 wsX5_inverts none D (mw_t cy) E A) : ∀ (n : Nat) (x1 : Int32) (x2 : Int64) (x4 : Int32) (S : RSt) (S' : RSt) (h : fX5_inverts_L30 n x1 x2 x4 S = some S') {H : Heap} {locs : List Loc} {ls : Array Slot} (hP : va_P D vwCl ((mw_w cy ad) S) H) (hD : va_D A ((mw_w cy ad) S)) (hS : va_S A s.heap H locs) (hl : lv_has ls 8 [(0, .ref (ad 0)), (1, .int x1), (2, .long x2), (4, .int x4)]) (kx0 : ∀ (H : Heap) (locs : List Loc) (ls : Array Slot), va_P D vwCl ((mw_w cy ad) S') H → va_D A ((mw_w cy ad) S') → va_S A s.heap H locs → lv_has ls 8 [(0, .ref (ad 0)), (1, .int x1), (2, .long x2)] → W p l e rmX5_inverts s m args below meth c H locs 0 0 Q (F0 m 133 ls [])), W p l e rmX5_inverts s m args below meth c H locs 0 0 Q (F0 m 30 ls []) := by
  obtain ⟨⟨hx, hb, hml, hown, hts⟩, hr, hlk, hK, hA, hE, hEE⟩ := id C
  intro n
  induction n with
  | zero =>
    intro x1 x2 x4 S S' h
    rw [fX5_inverts_L30] at h
    cases h
  | succ n ih =>
    intro x1 x2 x4 S S' h H locs ls hP hD hS hl kx0
    rw [fX5_inverts_L30] at h
    refine lv_iload hx hb dX5_inverts_30 (lv_at hl 3 rfl) ?_
    refine lv_aload_n hx hb dX5_inverts_32 rfl (lv_at hl 0 rfl) ?_
    refine va_get (D := D) (ci := 5) (v := .int (st_i S 14)) (C := RX5) (T := TX5) (N := 31) hx hb hts ni_X5_inverts_X5 hown hK hP 0 mw_M rfl 29 (by decide) (hts _ nf_X5_inverts_f184) (fun _ h9 => h9) rfl dX5_inverts_33 ?_
    refine lv_icmp_ge (tgt := 133) hx hb dX5_inverts_36 (by decide) (fun c_3 => ?_) (fun c_3 => ?_)
    · have h := ob_t c_3 h
      cases h
      exact kx0 _ _ _ hP hD hS (lv_sub hl [0, 1, 2] rfl)
    · have h := ob_f c_3 h
      refine lv_iload hx hb dX5_inverts_39 (lv_at hl 3 rfl) ?_
      refine lv_iload_n hx hb dX5_inverts_41 rfl (lv_at hl 1 rfl) ?_
      refine lv_icmp_ne (tgt := 48) hx hb dX5_inverts_42 (by decide) (fun c_4 => ?_) (fun c_4 => ?_)
      · have h := ob_f c_4 h
        refine lv_aload_n hx hb dX5_inverts_48 rfl (lv_at hl 0 rfl) ?_
        refine va_get (D := D) (ci := 5) (v := .ref (ad 12)) (C := RX5) (T := TX5) (N := 31) hx hb hts ni_X5_inverts_X5 hown hK hP 0 mw_M rfl 26 (by decide) (hts _ nf_X5_inverts_f100) (fun _ h9 => h9) rfl dX5_inverts_49 ?_
        refine lv_bipush (v := 14) hx hb dX5_inverts_52 (by decide) ?_
        refine lv_iload hx hb dX5_inverts_54 (lv_at hl 3 rfl) ?_
        refine lv_imul hx hb dX5_inverts_56 ?_
        refine lv_iload_n hx hb dX5_inverts_57 rfl (lv_at hl 1 rfl) ?_
        refine lv_iadd hx hb dX5_inverts_58 ?_
        obtain ⟨hv_5, h⟩ := ob_in_s h
        refine va_lald hx hb hK hP 12 1 mw_rows rfl hv_5 dX5_inverts_59 ?_
        refine lv_lstore (lv' := [(5, .long (st_g S 0 (((14 : Int32) * x4) + x1).toNatClampNeg)), (0, .ref (ad 0)), (1, .int x1), (2, .long x2), (4, .int x4)]) hx hb dX5_inverts_60 hl (by decide) rfl (fun ls hl => ?_)
        refine lv_iconst (v := 0) hx hb dX5_inverts_62 (by decide) ?_
        refine lv_istore (lv' := [(7, .int (0 : Int32)), (5, .long (st_g S 0 (((14 : Int32) * x4) + x1).toNatClampNeg)), (0, .ref (ad 0)), (1, .int x1), (2, .long x2), (4, .int x4)]) hx hb dX5_inverts_63 hl (by decide) rfl (fun ls hl => ?_)
        obtain ⟨S_12, hq_11, h⟩ := ob_1s h
        refine kX5_inverts_L65  C _ _ _ _ _ _ _ _ hq_11 hP hD hS (lv_sub hl [2, 3, 4, 5, 1, 0] rfl) (fun H locs ls hP hD hS hl => ?_)
        refine lv_iinc (v := x4 + (1 : Int32)) (lv' := [(4, .int (x4 + (1 : Int32))), (0, .ref (ad 0)), (1, .int x1), (2, .long x2)]) hx hb dX5_inverts_127 hl (k := 3) rfl (congrArg (fun z => x4 + z) (by decide)) (by decide) rfl (fun ls hl => ?_)
        refine lv_goto (tgt := 30) hx hb dX5_inverts_130 (by decide) ?_
        exact ih _ _ _ _ _ h hP hD hS (lv_sub hl [1, 2, 3, 0] rfl) kx0
      · have h := ob_t c_4 h
        refine lv_goto (tgt := 127) hx hb dX5_inverts_45 (by decide) ?_
        refine lv_iinc (v := x4 + (1 : Int32)) (lv' := [(4, .int (x4 + (1 : Int32))), (0, .ref (ad 0)), (1, .int x1), (2, .long x2)]) hx hb dX5_inverts_127 hl (k := 3) rfl (congrArg (fun z => x4 + z) (by decide)) (by decide) rfl (fun ls hl => ?_)
        refine lv_goto (tgt := 30) hx hb dX5_inverts_130 (by decide) ?_
        exact ih _ _ _ _ _ h hP hD hS (lv_sub hl [1, 2, 3, 0] rfl) kx0
set_option maxHeartbeats 4000000 in
set_option maxRecDepth 100000 in
theorem kX5_inverts_L7 {l : Launch} {D : va_G} {cy : Nat → ClassId} {ad : Nat → Nat} {E : ke_T} {p : Program} {e : Env} {s : State} {m : MethodId} {args : Array Value} {below : List Frame} {meth : Method} {c : Code} {A : Nat → Prop} {Q : State → Prop} (C : km_C p s m args meth c cX5_inverts 8 RX5 wsX5_inverts none D (mw_t cy) E A) : ∀ (n : Nat) (x1 : Int32) (S : RSt) (S' : RSt) (h : fX5_inverts_L7 n x1 S = some S') {H : Heap} {locs : List Loc} {ls : Array Slot} (hP : va_P D vwCl ((mw_w cy ad) S) H) (hD : va_D A ((mw_w cy ad) S)) (hS : va_S A s.heap H locs) (hl : lv_has ls 8 [(0, .ref (ad 0)), (1, .int x1)]) (kx0 : ∀ (H : Heap) (locs : List Loc) (ls : Array Slot), va_P D vwCl ((mw_w cy ad) S') H → va_D A ((mw_w cy ad) S') → va_S A s.heap H locs → lv_has ls 8 [] → W p l e rmX5_inverts s m args below meth c H locs 0 0 Q (F0 m 144 ls [])), W p l e rmX5_inverts s m args below meth c H locs 0 0 Q (F0 m 7 ls []) := by
  obtain ⟨⟨hx, hb, hml, hown, hts⟩, hr, hlk, hK, hA, hE, hEE⟩ := id C
  intro n
  induction n with
  | zero =>
    intro x1 S S' h
    rw [fX5_inverts_L7] at h
    cases h
  | succ n ih =>
    intro x1 S S' h H locs ls hP hD hS hl kx0
    rw [fX5_inverts_L7] at h
    refine lv_iload_n hx hb dX5_inverts_7 rfl (lv_at hl 1 rfl) ?_
    refine lv_aload_n hx hb dX5_inverts_8 rfl (lv_at hl 0 rfl) ?_
    refine va_get (D := D) (ci := 5) (v := .int (st_i S 14)) (C := RX5) (T := TX5) (N := 31) hx hb hts ni_X5_inverts_X5 hown hK hP 0 mw_M rfl 29 (by decide) (hts _ nf_X5_inverts_f184) (fun _ h9 => h9) rfl dX5_inverts_9 ?_
    refine lv_icmp_ge (tgt := 144) hx hb dX5_inverts_12 (by decide) (fun c_1 => ?_) (fun c_1 => ?_)
    · have h := ob_t c_1 h
      cases h
      exact kx0 _ _ _ hP hD hS (lv_sub hl [] rfl)
    · have h := ob_f c_1 h
      refine lv_aload_n hx hb dX5_inverts_15 rfl (lv_at hl 0 rfl) ?_
      refine va_get (D := D) (ci := 5) (v := .ref (ad 12)) (C := RX5) (T := TX5) (N := 31) hx hb hts ni_X5_inverts_X5 hown hK hP 0 mw_M rfl 26 (by decide) (hts _ nf_X5_inverts_f100) (fun _ h9 => h9) rfl dX5_inverts_16 ?_
      refine lv_bipush (v := 14) hx hb dX5_inverts_19 (by decide) ?_
      refine lv_iload_n hx hb dX5_inverts_21 rfl (lv_at hl 1 rfl) ?_
      refine lv_imul hx hb dX5_inverts_22 ?_
      refine lv_iload_n hx hb dX5_inverts_23 rfl (lv_at hl 1 rfl) ?_
      refine lv_iadd hx hb dX5_inverts_24 ?_
      obtain ⟨hv_2, h⟩ := ob_in_s h
      refine va_lald hx hb hK hP 12 1 mw_rows rfl hv_2 dX5_inverts_25 ?_
      refine lv_lstore_n (lv' := [(2, .long (st_g S 0 (((14 : Int32) * x1) + x1).toNatClampNeg)), (0, .ref (ad 0)), (1, .int x1)]) hx hb dX5_inverts_26 rfl hl (by decide) rfl (fun ls hl => ?_)
      refine lv_iconst (v := 0) hx hb dX5_inverts_27 (by decide) ?_
      refine lv_istore (lv' := [(4, .int (0 : Int32)), (2, .long (st_g S 0 (((14 : Int32) * x1) + x1).toNatClampNeg)), (0, .ref (ad 0)), (1, .int x1)]) hx hb dX5_inverts_28 hl (by decide) rfl (fun ls hl => ?_)
      obtain ⟨S_14, hq_13, h⟩ := ob_1s h
      refine kX5_inverts_L30  C _ _ _ _ _ _ hq_13 hP hD hS (lv_sub hl [2, 3, 1, 0] rfl) (fun H locs ls hP hD hS hl => ?_)
      refine lv_aload_n hx hb dX5_inverts_133 rfl (lv_at hl 0 rfl) ?_
      refine lv_lload_n hx hb dX5_inverts_134 rfl (lv_at hl 2 rfl) ?_
      refine va_put (D := D) (ci := 5) (v := .long (st_g S 0 (((14 : Int32) * x1) + x1).toNatClampNeg)) (ty := .long) (C := RX5) (T := TX5) (N := 31) hx hb hts ni_X5_inverts_X5 tyX5 tyX5_ok nmX5 hown hK hP hD hS 0 mw_M rfl 30 (by decide) (hts _ nf_X5_inverts_f203) (fun _ h9 => h9) rfl (by decide +kernel) rfl rfl (Nat.le_of_ble_eq_true rfl) dX5_inverts_135 (fun H locs hP hD hS => ?_)
      have hP := st_ps mw_s_lower hP
      have hD := st_ds mw_s_lower hD
      refine lv_iinc (v := x1 + (1 : Int32)) (lv' := [(1, .int (x1 + (1 : Int32))), (0, .ref (ad 0)), (2, .long (st_g S 0 (((14 : Int32) * x1) + x1).toNatClampNeg))]) hx hb dX5_inverts_138 hl (k := 1) rfl (congrArg (fun z => x1 + z) (by decide)) (by decide) rfl (fun ls hl => ?_)
      refine lv_goto (tgt := 7) hx hb dX5_inverts_141 (by decide) ?_
      exact ih _ _ _ h hP hD hS (lv_sub hl [1, 0] rfl) kx0
set_option maxHeartbeats 4000000 in
set_option maxRecDepth 100000 in
theorem kX5_inverts {l : Launch} {D : va_G} {cy : Nat → ClassId} {ad : Nat → Nat} {E : ke_T} (hEE : km_E E) {S : RSt} {S' : RSt} (h : fX5_inverts S = some S') : km_v l D (mw_t cy) (mw_w cy ad) E yX5_inverts wsX5_inverts rmX5_inverts [.ref (ad 0)] S S' := by
  refine km_v_in (cc := cX5_inverts) (nL := 8) hEE (by decide) rfl (Nat.le_of_ble_eq_true rfl) ?_
  intro p e s m below meth c A H ls C hP hD hS hl
  have C : km_C p s m _ meth c cX5_inverts 8 RX5 wsX5_inverts none D (mw_t cy) E A := C
  obtain ⟨⟨hx, hb, hml, hown, hts⟩, hr, hlk, hK, hA, hE, hEE⟩ := id C
  have hl : lv_has ls 8 [(0, .ref (ad 0))] := hl
  unfold fX5_inverts at h
  refine lv_aload_n hx hb dX5_inverts_0 rfl (lv_at hl 0 rfl) ?_
  refine lv_lconst (v := 1) hx hb dX5_inverts_1 (by decide) ?_
  refine va_put (D := D) (ci := 5) (v := .long (1 : Int64)) (ty := .long) (C := RX5) (T := TX5) (N := 31) hx hb hts ni_X5_inverts_X5 tyX5 tyX5_ok nmX5 hown hK hP hD hS 0 mw_M rfl 30 (by decide) (hts _ nf_X5_inverts_f203) (fun _ h9 => h9) rfl (by decide +kernel) rfl rfl (Nat.le_of_ble_eq_true rfl) dX5_inverts_2 (fun H locs hP hD hS => ?_)
  have hP := st_ps mw_s_lower hP
  have hD := st_ds mw_s_lower hD
  refine lv_iconst (v := 0) hx hb dX5_inverts_5 (by decide) ?_
  refine lv_istore_n (lv' := [(1, .int (0 : Int32)), (0, .ref (ad 0))]) hx hb dX5_inverts_6 rfl hl (by decide) rfl (fun ls hl => ?_)
  obtain ⟨S_16, hq_15, h⟩ := ob_1s h
  refine kX5_inverts_L7  C _ _ _ _ hq_15 hP hD hS (lv_sub hl [1, 0] rfl) (fun H locs ls hP hD hS hl => ?_)
  obtain rfl := ob_v h
  exact km_vret C hP hD hS dX5_inverts_144
def fX5_solves_L16 : Nat → Int32 → RSt → Option (RSt)
  | 0, _, _ => none
  | n + 1, x2, S => (ob_in (0 : Int32) 58 (if (st_a S 1 (0 : Int32).toNatClampNeg) ≤ x2 then (some S) else (ob_in x2 8 (if (st_a S 9 x2.toNatClampNeg) = x2 then (fX5_solves_L16 n (x2 + (1 : Int32)) S) else (ob_in (st_i S 14) 8 (fX5_solves_L16 n (x2 + (1 : Int32)) (st_si (st_sa S 10 (st_i S 14).toNatClampNeg x2) 14 ((st_i (st_sa S 10 (st_i S 14).toNatClampNeg x2) 14) + (1 : Int32)))))))))
def fX5_solves_L67 : Nat → Int32 → RSt → Option (RSt)
  | 0, _, _ => none
  | n + 1, x2, S => (if (98 : Int32) ≤ x2 then (some S) else (ob_in x2 98 (fX5_solves_L67 n (x2 + (1 : Int32)) (st_sg S 0 x2.toNatClampNeg (0 : Int64)))))
def fX5_solves_L88 : Nat → Int32 → RSt → Option (RSt)
  | 0, _, _ => none
  | n + 1, x2, S => (if (8 : Int32) ≤ x2 then (some S) else (ob_in x2 8 (fX5_solves_L88 n (x2 + (1 : Int32)) (st_sg S 1 x2.toNatClampNeg (0 : Int64)))))
def fX5_solves_L109 : Nat → Int32 → RSt → Option (RSt)
  | 0, _, _ => none
  | n + 1, x2, S => (if (st_i S 14) ≤ x2 then (some S) else (ob_in ((((14 : Int32) * x2) + (7 : Int32)) + x2) 98 (fX5_solves_L109 n (x2 + (1 : Int32)) (st_sg S 0 ((((14 : Int32) * x2) + (7 : Int32)) + x2).toNatClampNeg (1 : Int64)))))
def fX5_solves_L140 : Nat → Int32 → RSt → Option (RSt)
  | 0, _, _ => none
  | n + 1, x2, S => (if (st_i S 13) ≤ x2 then (some S) else (ob_in x2 48 (ob_2 (fX5_unknownOf (st_a S 5 x2.toNatClampNeg) S) fun r_29 S_30 => (ob_in x2 48 (ob_2 (fX5_unknownOf (st_a S_30 6 x2.toNatClampNeg) S_30) fun r_33 S_34 => (ob_in x2 48 (ob_1 (fX5_addsTo r_29 r_29 ((st_a S_34 8 x2.toNatClampNeg).toInt64) S_34) fun S_38 => (ob_1 (fX5_addsTo r_33 r_33 ((st_a S_34 8 x2.toNatClampNeg).toInt64) S_38) fun S_41 => (ob_1 (fX5_addsTo r_29 r_33 ((-(st_a S_34 8 x2.toNatClampNeg)).toInt64) S_41) fun S_44 => (ob_1 (fX5_addsTo r_33 r_29 ((-(st_a S_34 8 x2.toNatClampNeg)).toInt64) S_44) fun S_47 => (ob_j (fun (S_49 : RSt) => (if r_33 = (-1 : Int32) then (fX5_solves_L140 n (x2 + (1 : Int32)) S_49) else (ob_in r_33 8 (ob_in x2 48 (ob_in r_33 8 (fX5_solves_L140 n (x2 + (1 : Int32)) (st_sg S_49 1 r_33.toNatClampNeg ((st_g S_49 1 r_33.toNatClampNeg) + (((st_a S_34 8 x2.toNatClampNeg).toInt64) * ((st_a S_49 7 x2.toNatClampNeg).toInt64)))))))))) fun tJ_48 => (if r_29 = (-1 : Int32) then (tJ_48 S_47) else (ob_in r_29 8 (ob_in x2 48 (ob_in r_29 8 (tJ_48 (st_sg S_47 1 r_29.toNatClampNeg ((st_g S_47 1 r_29.toNatClampNeg) - (((st_a S_34 8 x2.toNatClampNeg).toInt64) * ((st_a S_47 7 x2.toNatClampNeg).toInt64))))))))))))))))))))
def fX5_solves_L321 : Nat → Int32 → Int32 → Int32 → RSt → Option (RSt)
  | 0, _, _, _, _ => none
  | n + 1, x2, x3, x4, S => (if (st_i S 14) ≤ x4 then (some S) else (if x3 = (-1 : Int32) then (some S) else (ob_in x2 8 (ob_in ((((14 : Int32) * x3) + (7 : Int32)) + x4) 98 (ob_in x4 8 (ob_in x2 8 (fX5_solves_L321 n x2 x3 (x4 + (1 : Int32)) (st_sg S 2 x2.toNatClampNeg ((st_g S 2 x2.toNatClampNeg) + ((st_g S 0 ((((14 : Int32) * x3) + (7 : Int32)) + x4).toNatClampNeg) * (st_g S 1 x4.toNatClampNeg)))))))))))
def fX5_solves_L285 : Nat → Int32 → RSt → Option (RSt)
  | 0, _, _ => none
  | n + 1, x2, S => (if (8 : Int32) ≤ x2 then (some S) else (ob_in (0 : Int32) 58 (ob_j (fun (sJ_66_0 : Int32) (S_67 : RSt) => (ob_in x2 8 (ob_1 (fX5_solves_L321 1000 x2 sJ_66_0 (0 : Int32) (st_sg S_67 2 x2.toNatClampNeg (0 : Int64))) fun S_76 => (fX5_solves_L285 n (x2 + (1 : Int32)) S_76)))) fun tJ_66 => (if (st_a S 1 (0 : Int32).toNatClampNeg) ≤ x2 then (tJ_66 (-1 : Int32) S) else (ob_2 (fX5_unknownOf x2 S) fun r_80 S_81 => (tJ_66 r_80 S_81))))))
def fX5_solves (x1 : Int32) (S : RSt) : Option (RSt) := (ob_1 (fX5_laysPairs x1 S) fun S_3 => (ob_1 (fX5_laysParts S_3) fun S_6 => (ob_1 (fX5_solves_L16 1000 (0 : Int32) (st_si S_6 14 (0 : Int32))) fun S_13 => (ob_1 (fX5_solves_L67 1000 (0 : Int32) S_13) fun S_17 => (ob_1 (fX5_solves_L88 1000 (0 : Int32) S_17) fun S_21 => (ob_1 (fX5_solves_L109 1000 (0 : Int32) S_21) fun S_25 => (ob_1 (fX5_solves_L140 1000 (0 : Int32) S_25) fun S_60 => (ob_1 (fX5_inverts S_60) fun S_63 => (ob_1 (fX5_solves_L285 1000 (0 : Int32) S_63) fun S_83 => (some S_83))))))))))
abbrev rmX5_solves : Room := { frames := 3, cells := 0, slots := 0, locals := 67 }
theorem nf_X5_solves_f184 : Cond.fieldLink RX5 184 "RepeatIndexModel" "many" "I" ∈ wsX5_solves := by decide +kernel
theorem ni_X5_solves_X5 : ∀ w ∈ u_ws RX5 TX5 31, w ∈ wsX5_solves := by decide +kernel
theorem nf_X5_solves_f70 : Cond.fieldLink RX5 70 "RepeatIndexModel" "now" "[I" ∈ wsX5_solves := by decide +kernel
theorem nf_X5_solves_f94 : Cond.fieldLink RX5 94 "RepeatIndexModel" "part" "[I" ∈ wsX5_solves := by decide +kernel
theorem nf_X5_solves_f97 : Cond.fieldLink RX5 97 "RepeatIndexModel" "unknown" "[I" ∈ wsX5_solves := by decide +kernel
theorem nf_X5_solves_f100 : Cond.fieldLink RX5 100 "RepeatIndexModel" "rows" "[J" ∈ wsX5_solves := by decide +kernel
theorem nf_X5_solves_f104 : Cond.fieldLink RX5 104 "RepeatIndexModel" "right" "[J" ∈ wsX5_solves := by decide +kernel
theorem nf_X5_solves_f175 : Cond.fieldLink RX5 175 "RepeatIndexModel" "pairs" "I" ∈ wsX5_solves := by decide +kernel
theorem nf_X5_solves_f82 : Cond.fieldLink RX5 82 "RepeatIndexModel" "pFrom" "[I" ∈ wsX5_solves := by decide +kernel
theorem nf_X5_solves_f85 : Cond.fieldLink RX5 85 "RepeatIndexModel" "pTo" "[I" ∈ wsX5_solves := by decide +kernel
theorem nf_X5_solves_f91 : Cond.fieldLink RX5 91 "RepeatIndexModel" "pWeight" "[I" ∈ wsX5_solves := by decide +kernel
theorem nf_X5_solves_f88 : Cond.fieldLink RX5 88 "RepeatIndexModel" "pRise" "[I" ∈ wsX5_solves := by decide +kernel
theorem nf_X5_solves_f107 : Cond.fieldLink RX5 107 "RepeatIndexModel" "upper" "[J" ∈ wsX5_solves := by decide +kernel
set_option maxHeartbeats 4000000 in
set_option maxRecDepth 100000 in
theorem kX5_solves_L16 {l : Launch} {D : va_G} {cy : Nat → ClassId} {ad : Nat → Nat} {E : ke_T} {p : Program} {e : Env} {s : State} {m : MethodId} {args : Array Value} {below : List Frame} {meth : Method} {c : Code} {A : Nat → Prop} {Q : State → Prop} (C : km_C p s m args meth c cX5_solves 6 RX5 wsX5_solves none D (mw_t cy) E A) : ∀ (n : Nat) (x2 : Int32) (S : RSt) (S' : RSt) (h : fX5_solves_L16 n x2 S = some S') {H : Heap} {locs : List Loc} {ls : Array Slot} (hP : va_P D vwCl ((mw_w cy ad) S) H) (hD : va_D A ((mw_w cy ad) S)) (hS : va_S A s.heap H locs) (hl : lv_has ls 6 [(0, .ref (ad 0)), (2, .int x2)]) (kx0 : ∀ (H : Heap) (locs : List Loc) (ls : Array Slot), va_P D vwCl ((mw_w cy ad) S') H → va_D A ((mw_w cy ad) S') → va_S A s.heap H locs → lv_has ls 6 [(0, .ref (ad 0))] → W p l e rmX5_solves s m args below meth c H locs 0 0 Q (F0 m 65 ls [])), W p l e rmX5_solves s m args below meth c H locs 0 0 Q (F0 m 16 ls []) := by
  obtain ⟨⟨hx, hb, hml, hown, hts⟩, hr, hlk, hK, hA, hE, hEE⟩ := id C
  intro n
  induction n with
  | zero =>
    intro x2 S S' h
    rw [fX5_solves_L16] at h
    cases h
  | succ n ih =>
    intro x2 S S' h H locs ls hP hD hS hl kx0
    rw [fX5_solves_L16] at h
    refine lv_iload_n hx hb dX5_solves_16 rfl (lv_at hl 1 rfl) ?_
    refine lv_aload_n hx hb dX5_solves_17 rfl (lv_at hl 0 rfl) ?_
    refine va_get (D := D) (ci := 5) (v := .ref (ad 2)) (C := RX5) (T := TX5) (N := 31) hx hb hts ni_X5_solves_X5 hown hK hP 0 mw_M rfl 11 (by decide) (hts _ nf_X5_solves_f70) (fun _ h9 => h9) rfl dX5_solves_18 ?_
    refine lv_iconst (v := 0) hx hb dX5_solves_21 (by decide) ?_
    obtain ⟨hv_7, h⟩ := ob_in_s h
    refine va_iald hx hb hK hP 2 0 mw_now rfl hv_7 dX5_solves_22 ?_
    refine lv_icmp_ge (tgt := 65) hx hb dX5_solves_23 (by decide) (fun c_8 => ?_) (fun c_8 => ?_)
    · have h := ob_t c_8 h
      cases h
      exact kx0 _ _ _ hP hD hS (lv_sub hl [0] rfl)
    · have h := ob_f c_8 h
      refine lv_aload_n hx hb dX5_solves_26 rfl (lv_at hl 0 rfl) ?_
      refine va_get (D := D) (ci := 5) (v := .ref (ad 10)) (C := RX5) (T := TX5) (N := 31) hx hb hts ni_X5_solves_X5 hown hK hP 0 mw_M rfl 24 (by decide) (hts _ nf_X5_solves_f94) (fun _ h9 => h9) rfl dX5_solves_27 ?_
      refine lv_iload_n hx hb dX5_solves_30 rfl (lv_at hl 1 rfl) ?_
      obtain ⟨hv_9, h⟩ := ob_in_s h
      refine va_iald hx hb hK hP 10 0 mw_part rfl hv_9 dX5_solves_31 ?_
      refine lv_iload_n hx hb dX5_solves_32 rfl (lv_at hl 1 rfl) ?_
      refine lv_icmp_ne (tgt := 39) hx hb dX5_solves_33 (by decide) (fun c_10 => ?_) (fun c_10 => ?_)
      · have h := ob_f c_10 h
        refine lv_aload_n hx hb dX5_solves_39 rfl (lv_at hl 0 rfl) ?_
        refine va_get (D := D) (ci := 5) (v := .ref (ad 11)) (C := RX5) (T := TX5) (N := 31) hx hb hts ni_X5_solves_X5 hown hK hP 0 mw_M rfl 25 (by decide) (hts _ nf_X5_solves_f97) (fun _ h9 => h9) rfl dX5_solves_40 ?_
        refine lv_aload_n hx hb dX5_solves_43 rfl (lv_at hl 0 rfl) ?_
        refine va_get (D := D) (ci := 5) (v := .int (st_i S 14)) (C := RX5) (T := TX5) (N := 31) hx hb hts ni_X5_solves_X5 hown hK hP 0 mw_M rfl 29 (by decide) (hts _ nf_X5_solves_f184) (fun _ h9 => h9) rfl dX5_solves_44 ?_
        refine lv_iload_n hx hb dX5_solves_47 rfl (lv_at hl 1 rfl) ?_
        obtain ⟨hv_11, h⟩ := ob_in_s h
        refine va_iast hx hb hK hP hD hS 11 0 mw_unknown rfl hv_11 dX5_solves_48 (fun H locs hP hD hS => ?_)
        have hP := st_ps mw_s_unknown hP
        have hD := st_ds mw_s_unknown hD
        refine lv_aload_n hx hb dX5_solves_49 rfl (lv_at hl 0 rfl) ?_
        refine lv_dup hx hb dX5_solves_50 rfl ?_
        refine va_get (D := D) (ci := 5) (v := .int (st_i (st_sa S 10 (st_i S 14).toNatClampNeg x2) 14)) (C := RX5) (T := TX5) (N := 31) hx hb hts ni_X5_solves_X5 hown hK hP 0 mw_M rfl 29 (by decide) (hts _ nf_X5_solves_f184) (fun _ h9 => h9) rfl dX5_solves_51 ?_
        refine lv_iconst (v := 1) hx hb dX5_solves_54 (by decide) ?_
        refine lv_iadd hx hb dX5_solves_55 ?_
        refine va_put (D := D) (ci := 5) (v := .int ((st_i (st_sa S 10 (st_i S 14).toNatClampNeg x2) 14) + (1 : Int32))) (ty := .int) (C := RX5) (T := TX5) (N := 31) hx hb hts ni_X5_solves_X5 tyX5 tyX5_ok nmX5 hown hK hP hD hS 0 mw_M rfl 29 (by decide) (hts _ nf_X5_solves_f184) (fun _ h9 => h9) rfl (by decide +kernel) rfl rfl (Nat.le_of_ble_eq_true rfl) dX5_solves_56 (fun H locs hP hD hS => ?_)
        have hP := st_ps mw_s_many hP
        have hD := st_ds mw_s_many hD
        refine lv_iinc (v := x2 + (1 : Int32)) (lv' := [(2, .int (x2 + (1 : Int32))), (0, .ref (ad 0))]) hx hb dX5_solves_59 hl (k := 1) rfl (congrArg (fun z => x2 + z) (by decide)) (by decide) rfl (fun ls hl => ?_)
        refine lv_goto (tgt := 16) hx hb dX5_solves_62 (by decide) ?_
        exact ih _ _ _ h hP hD hS (lv_sub hl [1, 0] rfl) kx0
      · have h := ob_t c_10 h
        refine lv_goto (tgt := 59) hx hb dX5_solves_36 (by decide) ?_
        refine lv_iinc (v := x2 + (1 : Int32)) (lv' := [(2, .int (x2 + (1 : Int32))), (0, .ref (ad 0))]) hx hb dX5_solves_59 hl (k := 1) rfl (congrArg (fun z => x2 + z) (by decide)) (by decide) rfl (fun ls hl => ?_)
        refine lv_goto (tgt := 16) hx hb dX5_solves_62 (by decide) ?_
        exact ih _ _ _ h hP hD hS (lv_sub hl [1, 0] rfl) kx0
set_option maxHeartbeats 4000000 in
set_option maxRecDepth 100000 in
theorem kX5_solves_L67 {l : Launch} {D : va_G} {cy : Nat → ClassId} {ad : Nat → Nat} {E : ke_T} {p : Program} {e : Env} {s : State} {m : MethodId} {args : Array Value} {below : List Frame} {meth : Method} {c : Code} {A : Nat → Prop} {Q : State → Prop} (C : km_C p s m args meth c cX5_solves 6 RX5 wsX5_solves none D (mw_t cy) E A) : ∀ (n : Nat) (x2 : Int32) (S : RSt) (S' : RSt) (h : fX5_solves_L67 n x2 S = some S') {H : Heap} {locs : List Loc} {ls : Array Slot} (hP : va_P D vwCl ((mw_w cy ad) S) H) (hD : va_D A ((mw_w cy ad) S)) (hS : va_S A s.heap H locs) (hl : lv_has ls 6 [(0, .ref (ad 0)), (2, .int x2)]) (kx0 : ∀ (H : Heap) (locs : List Loc) (ls : Array Slot), va_P D vwCl ((mw_w cy ad) S') H → va_D A ((mw_w cy ad) S') → va_S A s.heap H locs → lv_has ls 6 [(0, .ref (ad 0))] → W p l e rmX5_solves s m args below meth c H locs 0 0 Q (F0 m 86 ls [])), W p l e rmX5_solves s m args below meth c H locs 0 0 Q (F0 m 67 ls []) := by
  obtain ⟨⟨hx, hb, hml, hown, hts⟩, hr, hlk, hK, hA, hE, hEE⟩ := id C
  intro n
  induction n with
  | zero =>
    intro x2 S S' h
    rw [fX5_solves_L67] at h
    cases h
  | succ n ih =>
    intro x2 S S' h H locs ls hP hD hS hl kx0
    rw [fX5_solves_L67] at h
    refine lv_iload_n hx hb dX5_solves_67 rfl (lv_at hl 1 rfl) ?_
    refine lv_bipush (v := 98) hx hb dX5_solves_68 (by decide) ?_
    refine lv_icmp_ge (tgt := 86) hx hb dX5_solves_70 (by decide) (fun c_14 => ?_) (fun c_14 => ?_)
    · have h := ob_t c_14 h
      cases h
      exact kx0 _ _ _ hP hD hS (lv_sub hl [0] rfl)
    · have h := ob_f c_14 h
      refine lv_aload_n hx hb dX5_solves_73 rfl (lv_at hl 0 rfl) ?_
      refine va_get (D := D) (ci := 5) (v := .ref (ad 12)) (C := RX5) (T := TX5) (N := 31) hx hb hts ni_X5_solves_X5 hown hK hP 0 mw_M rfl 26 (by decide) (hts _ nf_X5_solves_f100) (fun _ h9 => h9) rfl dX5_solves_74 ?_
      refine lv_iload_n hx hb dX5_solves_77 rfl (lv_at hl 1 rfl) ?_
      refine lv_lconst (v := 0) hx hb dX5_solves_78 (by decide) ?_
      obtain ⟨hv_15, h⟩ := ob_in_s h
      refine va_last hx hb hK hP hD hS 12 1 mw_rows rfl hv_15 dX5_solves_79 (fun H locs hP hD hS => ?_)
      have hP := st_ps mw_s_rows hP
      have hD := st_ds mw_s_rows hD
      refine lv_iinc (v := x2 + (1 : Int32)) (lv' := [(2, .int (x2 + (1 : Int32))), (0, .ref (ad 0))]) hx hb dX5_solves_80 hl (k := 1) rfl (congrArg (fun z => x2 + z) (by decide)) (by decide) rfl (fun ls hl => ?_)
      refine lv_goto (tgt := 67) hx hb dX5_solves_83 (by decide) ?_
      exact ih _ _ _ h hP hD hS (lv_sub hl [1, 0] rfl) kx0
set_option maxHeartbeats 4000000 in
set_option maxRecDepth 100000 in
theorem kX5_solves_L88 {l : Launch} {D : va_G} {cy : Nat → ClassId} {ad : Nat → Nat} {E : ke_T} {p : Program} {e : Env} {s : State} {m : MethodId} {args : Array Value} {below : List Frame} {meth : Method} {c : Code} {A : Nat → Prop} {Q : State → Prop} (C : km_C p s m args meth c cX5_solves 6 RX5 wsX5_solves none D (mw_t cy) E A) : ∀ (n : Nat) (x2 : Int32) (S : RSt) (S' : RSt) (h : fX5_solves_L88 n x2 S = some S') {H : Heap} {locs : List Loc} {ls : Array Slot} (hP : va_P D vwCl ((mw_w cy ad) S) H) (hD : va_D A ((mw_w cy ad) S)) (hS : va_S A s.heap H locs) (hl : lv_has ls 6 [(0, .ref (ad 0)), (2, .int x2)]) (kx0 : ∀ (H : Heap) (locs : List Loc) (ls : Array Slot), va_P D vwCl ((mw_w cy ad) S') H → va_D A ((mw_w cy ad) S') → va_S A s.heap H locs → lv_has ls 6 [(0, .ref (ad 0))] → W p l e rmX5_solves s m args below meth c H locs 0 0 Q (F0 m 107 ls [])), W p l e rmX5_solves s m args below meth c H locs 0 0 Q (F0 m 88 ls []) := by
  obtain ⟨⟨hx, hb, hml, hown, hts⟩, hr, hlk, hK, hA, hE, hEE⟩ := id C
  intro n
  induction n with
  | zero =>
    intro x2 S S' h
    rw [fX5_solves_L88] at h
    cases h
  | succ n ih =>
    intro x2 S S' h H locs ls hP hD hS hl kx0
    rw [fX5_solves_L88] at h
    refine lv_iload_n hx hb dX5_solves_88 rfl (lv_at hl 1 rfl) ?_
    refine lv_bipush (v := 8) hx hb dX5_solves_89 (by decide) ?_
    refine lv_icmp_ge (tgt := 107) hx hb dX5_solves_91 (by decide) (fun c_18 => ?_) (fun c_18 => ?_)
    · have h := ob_t c_18 h
      cases h
      exact kx0 _ _ _ hP hD hS (lv_sub hl [0] rfl)
    · have h := ob_f c_18 h
      refine lv_aload_n hx hb dX5_solves_94 rfl (lv_at hl 0 rfl) ?_
      refine va_get (D := D) (ci := 5) (v := .ref (ad 13)) (C := RX5) (T := TX5) (N := 31) hx hb hts ni_X5_solves_X5 hown hK hP 0 mw_M rfl 27 (by decide) (hts _ nf_X5_solves_f104) (fun _ h9 => h9) rfl dX5_solves_95 ?_
      refine lv_iload_n hx hb dX5_solves_98 rfl (lv_at hl 1 rfl) ?_
      refine lv_lconst (v := 0) hx hb dX5_solves_99 (by decide) ?_
      obtain ⟨hv_19, h⟩ := ob_in_s h
      refine va_last hx hb hK hP hD hS 13 1 mw_right rfl hv_19 dX5_solves_100 (fun H locs hP hD hS => ?_)
      have hP := st_ps mw_s_right hP
      have hD := st_ds mw_s_right hD
      refine lv_iinc (v := x2 + (1 : Int32)) (lv' := [(2, .int (x2 + (1 : Int32))), (0, .ref (ad 0))]) hx hb dX5_solves_101 hl (k := 1) rfl (congrArg (fun z => x2 + z) (by decide)) (by decide) rfl (fun ls hl => ?_)
      refine lv_goto (tgt := 88) hx hb dX5_solves_104 (by decide) ?_
      exact ih _ _ _ h hP hD hS (lv_sub hl [1, 0] rfl) kx0
set_option maxHeartbeats 4000000 in
set_option maxRecDepth 100000 in
theorem kX5_solves_L109 {l : Launch} {D : va_G} {cy : Nat → ClassId} {ad : Nat → Nat} {E : ke_T} {p : Program} {e : Env} {s : State} {m : MethodId} {args : Array Value} {below : List Frame} {meth : Method} {c : Code} {A : Nat → Prop} {Q : State → Prop} (C : km_C p s m args meth c cX5_solves 6 RX5 wsX5_solves none D (mw_t cy) E A) : ∀ (n : Nat) (x2 : Int32) (S : RSt) (S' : RSt) (h : fX5_solves_L109 n x2 S = some S') {H : Heap} {locs : List Loc} {ls : Array Slot} (hP : va_P D vwCl ((mw_w cy ad) S) H) (hD : va_D A ((mw_w cy ad) S)) (hS : va_S A s.heap H locs) (hl : lv_has ls 6 [(0, .ref (ad 0)), (2, .int x2)]) (kx0 : ∀ (H : Heap) (locs : List Loc) (ls : Array Slot), va_P D vwCl ((mw_w cy ad) S') H → va_D A ((mw_w cy ad) S') → va_S A s.heap H locs → lv_has ls 6 [(0, .ref (ad 0))] → W p l e rmX5_solves s m args below meth c H locs 0 0 Q (F0 m 138 ls [])), W p l e rmX5_solves s m args below meth c H locs 0 0 Q (F0 m 109 ls []) := by
  obtain ⟨⟨hx, hb, hml, hown, hts⟩, hr, hlk, hK, hA, hE, hEE⟩ := id C
  intro n
  induction n with
  | zero =>
    intro x2 S S' h
    rw [fX5_solves_L109] at h
    cases h
  | succ n ih =>
    intro x2 S S' h H locs ls hP hD hS hl kx0
    rw [fX5_solves_L109] at h
    refine lv_iload_n hx hb dX5_solves_109 rfl (lv_at hl 1 rfl) ?_
    refine lv_aload_n hx hb dX5_solves_110 rfl (lv_at hl 0 rfl) ?_
    refine va_get (D := D) (ci := 5) (v := .int (st_i S 14)) (C := RX5) (T := TX5) (N := 31) hx hb hts ni_X5_solves_X5 hown hK hP 0 mw_M rfl 29 (by decide) (hts _ nf_X5_solves_f184) (fun _ h9 => h9) rfl dX5_solves_111 ?_
    refine lv_icmp_ge (tgt := 138) hx hb dX5_solves_114 (by decide) (fun c_22 => ?_) (fun c_22 => ?_)
    · have h := ob_t c_22 h
      cases h
      exact kx0 _ _ _ hP hD hS (lv_sub hl [0] rfl)
    · have h := ob_f c_22 h
      refine lv_aload_n hx hb dX5_solves_117 rfl (lv_at hl 0 rfl) ?_
      refine va_get (D := D) (ci := 5) (v := .ref (ad 12)) (C := RX5) (T := TX5) (N := 31) hx hb hts ni_X5_solves_X5 hown hK hP 0 mw_M rfl 26 (by decide) (hts _ nf_X5_solves_f100) (fun _ h9 => h9) rfl dX5_solves_118 ?_
      refine lv_bipush (v := 14) hx hb dX5_solves_121 (by decide) ?_
      refine lv_iload_n hx hb dX5_solves_123 rfl (lv_at hl 1 rfl) ?_
      refine lv_imul hx hb dX5_solves_124 ?_
      refine lv_bipush (v := 7) hx hb dX5_solves_125 (by decide) ?_
      refine lv_iadd hx hb dX5_solves_127 ?_
      refine lv_iload_n hx hb dX5_solves_128 rfl (lv_at hl 1 rfl) ?_
      refine lv_iadd hx hb dX5_solves_129 ?_
      refine lv_lconst (v := 1) hx hb dX5_solves_130 (by decide) ?_
      obtain ⟨hv_23, h⟩ := ob_in_s h
      refine va_last hx hb hK hP hD hS 12 1 mw_rows rfl hv_23 dX5_solves_131 (fun H locs hP hD hS => ?_)
      have hP := st_ps mw_s_rows hP
      have hD := st_ds mw_s_rows hD
      refine lv_iinc (v := x2 + (1 : Int32)) (lv' := [(2, .int (x2 + (1 : Int32))), (0, .ref (ad 0))]) hx hb dX5_solves_132 hl (k := 1) rfl (congrArg (fun z => x2 + z) (by decide)) (by decide) rfl (fun ls hl => ?_)
      refine lv_goto (tgt := 109) hx hb dX5_solves_135 (by decide) ?_
      exact ih _ _ _ h hP hD hS (lv_sub hl [1, 0] rfl) kx0
set_option maxHeartbeats 4000000 in
set_option maxRecDepth 100000 in
theorem kX5_solves_L140 {l : Launch} {D : va_G} {cy : Nat → ClassId} {ad : Nat → Nat} {E : ke_T} {p : Program} {e : Env} {s : State} {m : MethodId} {args : Array Value} {below : List Frame} {meth : Method} {c : Code} {A : Nat → Prop} {Q : State → Prop} (C : km_C p s m args meth c cX5_solves 6 RX5 wsX5_solves none D (mw_t cy) E A) : ∀ (n : Nat) (x2 : Int32) (S : RSt) (S' : RSt) (h : fX5_solves_L140 n x2 S = some S') {H : Heap} {locs : List Loc} {ls : Array Slot} (hP : va_P D vwCl ((mw_w cy ad) S) H) (hD : va_D A ((mw_w cy ad) S)) (hS : va_S A s.heap H locs) (hl : lv_has ls 6 [(0, .ref (ad 0)), (2, .int x2)]) (kx0 : ∀ (H : Heap) (locs : List Loc) (ls : Array Slot), va_P D vwCl ((mw_w cy ad) S') H → va_D A ((mw_w cy ad) S') → va_S A s.heap H locs → lv_has ls 6 [(0, .ref (ad 0))] → W p l e rmX5_solves s m args below meth c H locs 0 0 Q (F0 m 279 ls [])), W p l e rmX5_solves s m args below meth c H locs 0 0 Q (F0 m 140 ls []) := by
  obtain ⟨⟨hx, hb, hml, hown, hts⟩, hr, hlk, hK, hA, hE, hEE⟩ := id C
  intro n
  induction n with
  | zero =>
    intro x2 S S' h
    rw [fX5_solves_L140] at h
    cases h
  | succ n ih =>
    intro x2 S S' h H locs ls hP hD hS hl kx0
    rw [fX5_solves_L140] at h
    refine lv_iload_n hx hb dX5_solves_140 rfl (lv_at hl 1 rfl) ?_
    refine lv_aload_n hx hb dX5_solves_141 rfl (lv_at hl 0 rfl) ?_
    refine va_get (D := D) (ci := 5) (v := .int (st_i S 13)) (C := RX5) (T := TX5) (N := 31) hx hb hts ni_X5_solves_X5 hown hK hP 0 mw_M rfl 23 (by decide) (hts _ nf_X5_solves_f175) (fun _ h9 => h9) rfl dX5_solves_142 ?_
    refine lv_icmp_ge (tgt := 279) hx hb dX5_solves_145 (by decide) (fun c_26 => ?_) (fun c_26 => ?_)
    · have h := ob_t c_26 h
      cases h
      exact kx0 _ _ _ hP hD hS (lv_sub hl [0] rfl)
    · have h := ob_f c_26 h
      refine lv_aload_n hx hb dX5_solves_148 rfl (lv_at hl 0 rfl) ?_
      refine lv_aload_n hx hb dX5_solves_149 rfl (lv_at hl 0 rfl) ?_
      refine va_get (D := D) (ci := 5) (v := .ref (ad 6)) (C := RX5) (T := TX5) (N := 31) hx hb hts ni_X5_solves_X5 hown hK hP 0 mw_M rfl 19 (by decide) (hts _ nf_X5_solves_f82) (fun _ h9 => h9) rfl dX5_solves_150 ?_
      refine lv_iload_n hx hb dX5_solves_153 rfl (lv_at hl 1 rfl) ?_
      obtain ⟨hv_27, h⟩ := ob_in_s h
      refine va_iald hx hb hK hP 6 0 mw_pFrom rfl hv_27 dX5_solves_154 ?_
      obtain ⟨r_29, S_30, hc_28, h⟩ := ob_2s h
      refine km_cVi (As := [.int (st_a S 5 x2.toNatClampNeg)]) (rest := []) C (kX5_unknownOf hEE hc_28) (cwV 1 hts gX5_solves_X5_unknownOf rfl rfl rfl (by decide +kernel) ⟨(Nat.le_of_ble_eq_true rfl), (Nat.le_of_ble_eq_true rfl)⟩) mw_M rfl rfl rfl hP hD hS hl.1 rfl (Nat.le_of_ble_eq_true rfl) dX5_solves_155 (fun H locs hP hD hS => ?_)
      refine lv_istore_n (lv' := [(3, .int r_29), (0, .ref (ad 0)), (2, .int x2)]) hx hb dX5_solves_158 rfl hl (by decide) rfl (fun ls hl => ?_)
      refine lv_aload_n hx hb dX5_solves_159 rfl (lv_at hl 1 rfl) ?_
      refine lv_aload_n hx hb dX5_solves_160 rfl (lv_at hl 1 rfl) ?_
      refine va_get (D := D) (ci := 5) (v := .ref (ad 7)) (C := RX5) (T := TX5) (N := 31) hx hb hts ni_X5_solves_X5 hown hK hP 0 mw_M rfl 20 (by decide) (hts _ nf_X5_solves_f85) (fun _ h9 => h9) rfl dX5_solves_161 ?_
      refine lv_iload_n hx hb dX5_solves_164 rfl (lv_at hl 2 rfl) ?_
      obtain ⟨hv_31, h⟩ := ob_in_s h
      refine va_iald hx hb hK hP 7 0 mw_pTo rfl hv_31 dX5_solves_165 ?_
      obtain ⟨r_33, S_34, hc_32, h⟩ := ob_2s h
      refine km_cVi (As := [.int (st_a S_30 6 x2.toNatClampNeg)]) (rest := []) C (kX5_unknownOf hEE hc_32) (cwV 1 hts gX5_solves_X5_unknownOf rfl rfl rfl (by decide +kernel) ⟨(Nat.le_of_ble_eq_true rfl), (Nat.le_of_ble_eq_true rfl)⟩) mw_M rfl rfl rfl hP hD hS hl.1 rfl (Nat.le_of_ble_eq_true rfl) dX5_solves_166 (fun H locs hP hD hS => ?_)
      refine lv_istore (lv' := [(4, .int r_33), (3, .int r_29), (0, .ref (ad 0)), (2, .int x2)]) hx hb dX5_solves_169 hl (by decide) rfl (fun ls hl => ?_)
      refine lv_aload_n hx hb dX5_solves_171 rfl (lv_at hl 2 rfl) ?_
      refine va_get (D := D) (ci := 5) (v := .ref (ad 9)) (C := RX5) (T := TX5) (N := 31) hx hb hts ni_X5_solves_X5 hown hK hP 0 mw_M rfl 22 (by decide) (hts _ nf_X5_solves_f91) (fun _ h9 => h9) rfl dX5_solves_172 ?_
      refine lv_iload_n hx hb dX5_solves_175 rfl (lv_at hl 3 rfl) ?_
      obtain ⟨hv_35, h⟩ := ob_in_s h
      refine va_iald hx hb hK hP 9 0 mw_pWeight rfl hv_35 dX5_solves_176 ?_
      refine lv_istore (lv' := [(5, .int (st_a S_34 8 x2.toNatClampNeg)), (4, .int r_33), (3, .int r_29), (0, .ref (ad 0)), (2, .int x2)]) hx hb dX5_solves_177 hl (by decide) rfl (fun ls hl => ?_)
      refine lv_aload_n hx hb dX5_solves_179 rfl (lv_at hl 3 rfl) ?_
      refine lv_iload_n hx hb dX5_solves_180 rfl (lv_at hl 2 rfl) ?_
      refine lv_iload_n hx hb dX5_solves_181 rfl (lv_at hl 2 rfl) ?_
      refine lv_iload hx hb dX5_solves_182 (lv_at hl 0 rfl) ?_
      refine lv_i2l hx hb dX5_solves_184 rfl ?_
      obtain ⟨S_38, hc_36, h⟩ := ob_1s h
      refine km_cVv (As := [.int r_29, .int r_29, .long ((st_a S_34 8 x2.toNatClampNeg).toInt64)]) (rest := []) C (kX5_addsTo hEE hc_36) (cwV 3 hts gX5_solves_X5_addsTo rfl rfl rfl (by decide +kernel) ⟨(Nat.le_of_ble_eq_true rfl), (Nat.le_of_ble_eq_true rfl)⟩) mw_M rfl rfl rfl hP hD hS hl.1 rfl (Nat.le_of_ble_eq_true rfl) dX5_solves_185 (fun H locs hP hD hS => ?_)
      refine lv_aload_n hx hb dX5_solves_188 rfl (lv_at hl 3 rfl) ?_
      refine lv_iload hx hb dX5_solves_189 (lv_at hl 1 rfl) ?_
      refine lv_iload hx hb dX5_solves_191 (lv_at hl 1 rfl) ?_
      refine lv_iload hx hb dX5_solves_193 (lv_at hl 0 rfl) ?_
      refine lv_i2l hx hb dX5_solves_195 rfl ?_
      obtain ⟨S_41, hc_39, h⟩ := ob_1s h
      refine km_cVv (As := [.int r_33, .int r_33, .long ((st_a S_34 8 x2.toNatClampNeg).toInt64)]) (rest := []) C (kX5_addsTo hEE hc_39) (cwV 3 hts gX5_solves_X5_addsTo rfl rfl rfl (by decide +kernel) ⟨(Nat.le_of_ble_eq_true rfl), (Nat.le_of_ble_eq_true rfl)⟩) mw_M rfl rfl rfl hP hD hS hl.1 rfl (Nat.le_of_ble_eq_true rfl) dX5_solves_196 (fun H locs hP hD hS => ?_)
      refine lv_aload_n hx hb dX5_solves_199 rfl (lv_at hl 3 rfl) ?_
      refine lv_iload_n hx hb dX5_solves_200 rfl (lv_at hl 2 rfl) ?_
      refine lv_iload hx hb dX5_solves_201 (lv_at hl 1 rfl) ?_
      refine lv_iload hx hb dX5_solves_203 (lv_at hl 0 rfl) ?_
      refine lv_ineg hx hb dX5_solves_205 ?_
      refine lv_i2l hx hb dX5_solves_206 rfl ?_
      obtain ⟨S_44, hc_42, h⟩ := ob_1s h
      refine km_cVv (As := [.int r_29, .int r_33, .long ((-(st_a S_34 8 x2.toNatClampNeg)).toInt64)]) (rest := []) C (kX5_addsTo hEE hc_42) (cwV 3 hts gX5_solves_X5_addsTo rfl rfl rfl (by decide +kernel) ⟨(Nat.le_of_ble_eq_true rfl), (Nat.le_of_ble_eq_true rfl)⟩) mw_M rfl rfl rfl hP hD hS hl.1 rfl (Nat.le_of_ble_eq_true rfl) dX5_solves_207 (fun H locs hP hD hS => ?_)
      refine lv_aload_n hx hb dX5_solves_210 rfl (lv_at hl 3 rfl) ?_
      refine lv_iload hx hb dX5_solves_211 (lv_at hl 1 rfl) ?_
      refine lv_iload_n hx hb dX5_solves_213 rfl (lv_at hl 2 rfl) ?_
      refine lv_iload hx hb dX5_solves_214 (lv_at hl 0 rfl) ?_
      refine lv_ineg hx hb dX5_solves_216 ?_
      refine lv_i2l hx hb dX5_solves_217 rfl ?_
      obtain ⟨S_47, hc_45, h⟩ := ob_1s h
      refine km_cVv (As := [.int r_33, .int r_29, .long ((-(st_a S_34 8 x2.toNatClampNeg)).toInt64)]) (rest := []) C (kX5_addsTo hEE hc_45) (cwV 3 hts gX5_solves_X5_addsTo rfl rfl rfl (by decide +kernel) ⟨(Nat.le_of_ble_eq_true rfl), (Nat.le_of_ble_eq_true rfl)⟩) mw_M rfl rfl rfl hP hD hS hl.1 rfl (Nat.le_of_ble_eq_true rfl) dX5_solves_218 (fun H locs hP hD hS => ?_)
      refine lv_iload_n hx hb dX5_solves_221 rfl (lv_at hl 2 rfl) ?_
      refine lv_iconst (v := -1) hx hb dX5_solves_222 (by decide) ?_
      obtain ⟨tJ_48, hT_54, h⟩ := ob_js h
      have kJ_48 : ∀ (S_49 : RSt) (_ : tJ_48 S_49 = some S') (H : Heap) (locs : List Loc) (ls : Array Slot), va_P D vwCl ((mw_w cy ad) S_49) H → va_D A ((mw_w cy ad) S_49) → va_S A s.heap H locs → lv_has ls 6 [(0, .ref (ad 0)), (2, .int x2), (4, .int r_33), (5, .int (st_a S_34 8 x2.toNatClampNeg))] → W p l e rmX5_solves s m args below meth c H locs 0 0 Q (F0 m 246 ls []) := by
        intro S_49 h H locs ls hP hD hS hl
        rw [← hT_54] at h
        refine lv_iload hx hb dX5_solves_246 (lv_at hl 2 rfl) ?_
        refine lv_iconst (v := -1) hx hb dX5_solves_248 (by decide) ?_
        refine lv_icmp_eq (tgt := 273) hx hb dX5_solves_249 (by decide) (fun c_50 => ?_) (fun c_50 => ?_)
        · have h := ob_t c_50 h
          refine lv_iinc (v := x2 + (1 : Int32)) (lv' := [(2, .int (x2 + (1 : Int32))), (0, .ref (ad 0)), (4, .int r_33), (5, .int (st_a S_34 8 x2.toNatClampNeg))]) hx hb dX5_solves_273 hl (k := 1) rfl (congrArg (fun z => x2 + z) (by decide)) (by decide) rfl (fun ls hl => ?_)
          refine lv_goto (tgt := 140) hx hb dX5_solves_276 (by decide) ?_
          exact ih _ _ _ h hP hD hS (lv_sub hl [1, 0] rfl) kx0
        · have h := ob_f c_50 h
          refine lv_aload_n hx hb dX5_solves_252 rfl (lv_at hl 0 rfl) ?_
          refine va_get (D := D) (ci := 5) (v := .ref (ad 13)) (C := RX5) (T := TX5) (N := 31) hx hb hts ni_X5_solves_X5 hown hK hP 0 mw_M rfl 27 (by decide) (hts _ nf_X5_solves_f104) (fun _ h9 => h9) rfl dX5_solves_253 ?_
          refine lv_iload hx hb dX5_solves_256 (lv_at hl 2 rfl) ?_
          refine lv_dup2_11 hx hb dX5_solves_258 rfl rfl ?_
          obtain ⟨hv_51, h⟩ := ob_in_s h
          refine va_lald hx hb hK hP 13 1 mw_right rfl hv_51 dX5_solves_259 ?_
          refine lv_iload hx hb dX5_solves_260 (lv_at hl 3 rfl) ?_
          refine lv_i2l hx hb dX5_solves_262 rfl ?_
          refine lv_aload_n hx hb dX5_solves_263 rfl (lv_at hl 0 rfl) ?_
          refine va_get (D := D) (ci := 5) (v := .ref (ad 8)) (C := RX5) (T := TX5) (N := 31) hx hb hts ni_X5_solves_X5 hown hK hP 0 mw_M rfl 21 (by decide) (hts _ nf_X5_solves_f88) (fun _ h9 => h9) rfl dX5_solves_264 ?_
          refine lv_iload_n hx hb dX5_solves_267 rfl (lv_at hl 1 rfl) ?_
          obtain ⟨hv_52, h⟩ := ob_in_s h
          refine va_iald hx hb hK hP 8 0 mw_pRise rfl hv_52 dX5_solves_268 ?_
          refine lv_i2l hx hb dX5_solves_269 rfl ?_
          refine lv_lmul hx hb dX5_solves_270 ?_
          refine lv_ladd hx hb dX5_solves_271 ?_
          obtain ⟨hv_53, h⟩ := ob_in_s h
          refine va_last hx hb hK hP hD hS 13 1 mw_right rfl hv_53 dX5_solves_272 (fun H locs hP hD hS => ?_)
          have hP := st_ps mw_s_right hP
          have hD := st_ds mw_s_right hD
          refine lv_iinc (v := x2 + (1 : Int32)) (lv' := [(2, .int (x2 + (1 : Int32))), (0, .ref (ad 0)), (4, .int r_33), (5, .int (st_a S_34 8 x2.toNatClampNeg))]) hx hb dX5_solves_273 hl (k := 1) rfl (congrArg (fun z => x2 + z) (by decide)) (by decide) rfl (fun ls hl => ?_)
          refine lv_goto (tgt := 140) hx hb dX5_solves_276 (by decide) ?_
          exact ih _ _ _ h hP hD hS (lv_sub hl [1, 0] rfl) kx0
      refine lv_icmp_eq (tgt := 246) hx hb dX5_solves_223 (by decide) (fun c_55 => ?_) (fun c_55 => ?_)
      · have h := ob_t c_55 h
        exact kJ_48  _ h _ _ _ hP hD hS (lv_sub hl [3, 4, 1, 0] rfl)
      · have h := ob_f c_55 h
        refine lv_aload_n hx hb dX5_solves_226 rfl (lv_at hl 3 rfl) ?_
        refine va_get (D := D) (ci := 5) (v := .ref (ad 13)) (C := RX5) (T := TX5) (N := 31) hx hb hts ni_X5_solves_X5 hown hK hP 0 mw_M rfl 27 (by decide) (hts _ nf_X5_solves_f104) (fun _ h9 => h9) rfl dX5_solves_227 ?_
        refine lv_iload_n hx hb dX5_solves_230 rfl (lv_at hl 2 rfl) ?_
        refine lv_dup2_11 hx hb dX5_solves_231 rfl rfl ?_
        obtain ⟨hv_56, h⟩ := ob_in_s h
        refine va_lald hx hb hK hP 13 1 mw_right rfl hv_56 dX5_solves_232 ?_
        refine lv_iload hx hb dX5_solves_233 (lv_at hl 0 rfl) ?_
        refine lv_i2l hx hb dX5_solves_235 rfl ?_
        refine lv_aload_n hx hb dX5_solves_236 rfl (lv_at hl 3 rfl) ?_
        refine va_get (D := D) (ci := 5) (v := .ref (ad 8)) (C := RX5) (T := TX5) (N := 31) hx hb hts ni_X5_solves_X5 hown hK hP 0 mw_M rfl 21 (by decide) (hts _ nf_X5_solves_f88) (fun _ h9 => h9) rfl dX5_solves_237 ?_
        refine lv_iload_n hx hb dX5_solves_240 rfl (lv_at hl 4 rfl) ?_
        obtain ⟨hv_57, h⟩ := ob_in_s h
        refine va_iald hx hb hK hP 8 0 mw_pRise rfl hv_57 dX5_solves_241 ?_
        refine lv_i2l hx hb dX5_solves_242 rfl ?_
        refine lv_lmul hx hb dX5_solves_243 ?_
        refine lv_lsub hx hb dX5_solves_244 ?_
        obtain ⟨hv_58, h⟩ := ob_in_s h
        refine va_last hx hb hK hP hD hS 13 1 mw_right rfl hv_58 dX5_solves_245 (fun H locs hP hD hS => ?_)
        have hP := st_ps mw_s_right hP
        have hD := st_ds mw_s_right hD
        exact kJ_48  _ h _ _ _ hP hD hS (lv_sub hl [3, 4, 1, 0] rfl)
set_option maxHeartbeats 4000000 in
set_option maxRecDepth 100000 in
theorem kX5_solves_L321 {l : Launch} {D : va_G} {cy : Nat → ClassId} {ad : Nat → Nat} {E : ke_T} {p : Program} {e : Env} {s : State} {m : MethodId} {args : Array Value} {below : List Frame} {meth : Method} {c : Code} {A : Nat → Prop} {Q : State → Prop} (C : km_C p s m args meth c cX5_solves 6 RX5 wsX5_solves none D (mw_t cy) E A) : ∀ (n : Nat) (x2 : Int32) (x3 : Int32) (x4 : Int32) (S : RSt) (S' : RSt) (h : fX5_solves_L321 n x2 x3 x4 S = some S') {H : Heap} {locs : List Loc} {ls : Array Slot} (hP : va_P D vwCl ((mw_w cy ad) S) H) (hD : va_D A ((mw_w cy ad) S)) (hS : va_S A s.heap H locs) (hl : lv_has ls 6 [(0, .ref (ad 0)), (2, .int x2), (3, .int x3), (4, .int x4)]) (kx0 : ∀ (H : Heap) (locs : List Loc) (ls : Array Slot), va_P D vwCl ((mw_w cy ad) S') H → va_D A ((mw_w cy ad) S') → va_S A s.heap H locs → lv_has ls 6 [(0, .ref (ad 0)), (2, .int x2)] → W p l e rmX5_solves s m args below meth c H locs 0 0 Q (F0 m 373 ls [])), W p l e rmX5_solves s m args below meth c H locs 0 0 Q (F0 m 321 ls []) := by
  obtain ⟨⟨hx, hb, hml, hown, hts⟩, hr, hlk, hK, hA, hE, hEE⟩ := id C
  intro n
  induction n with
  | zero =>
    intro x2 x3 x4 S S' h
    rw [fX5_solves_L321] at h
    cases h
  | succ n ih =>
    intro x2 x3 x4 S S' h H locs ls hP hD hS hl kx0
    rw [fX5_solves_L321] at h
    refine lv_iload hx hb dX5_solves_321 (lv_at hl 3 rfl) ?_
    refine lv_aload_n hx hb dX5_solves_323 rfl (lv_at hl 0 rfl) ?_
    refine va_get (D := D) (ci := 5) (v := .int (st_i S 14)) (C := RX5) (T := TX5) (N := 31) hx hb hts ni_X5_solves_X5 hown hK hP 0 mw_M rfl 29 (by decide) (hts _ nf_X5_solves_f184) (fun _ h9 => h9) rfl dX5_solves_324 ?_
    refine lv_icmp_ge (tgt := 373) hx hb dX5_solves_327 (by decide) (fun c_69 => ?_) (fun c_69 => ?_)
    · have h := ob_t c_69 h
      cases h
      exact kx0 _ _ _ hP hD hS (lv_sub hl [0, 1] rfl)
    · have h := ob_f c_69 h
      refine lv_iload_n hx hb dX5_solves_330 rfl (lv_at hl 2 rfl) ?_
      refine lv_iconst (v := -1) hx hb dX5_solves_331 (by decide) ?_
      refine lv_icmp_eq (tgt := 373) hx hb dX5_solves_332 (by decide) (fun c_70 => ?_) (fun c_70 => ?_)
      · have h := ob_t c_70 h
        cases h
        exact kx0 _ _ _ hP hD hS (lv_sub hl [0, 1] rfl)
      · have h := ob_f c_70 h
        refine lv_aload_n hx hb dX5_solves_335 rfl (lv_at hl 0 rfl) ?_
        refine va_get (D := D) (ci := 5) (v := .ref (ad 14)) (C := RX5) (T := TX5) (N := 31) hx hb hts ni_X5_solves_X5 hown hK hP 0 mw_M rfl 28 (by decide) (hts _ nf_X5_solves_f107) (fun _ h9 => h9) rfl dX5_solves_336 ?_
        refine lv_iload_n hx hb dX5_solves_339 rfl (lv_at hl 1 rfl) ?_
        refine lv_dup2_11 hx hb dX5_solves_340 rfl rfl ?_
        obtain ⟨hv_71, h⟩ := ob_in_s h
        refine va_lald hx hb hK hP 14 1 mw_upper rfl hv_71 dX5_solves_341 ?_
        refine lv_aload_n hx hb dX5_solves_342 rfl (lv_at hl 0 rfl) ?_
        refine va_get (D := D) (ci := 5) (v := .ref (ad 12)) (C := RX5) (T := TX5) (N := 31) hx hb hts ni_X5_solves_X5 hown hK hP 0 mw_M rfl 26 (by decide) (hts _ nf_X5_solves_f100) (fun _ h9 => h9) rfl dX5_solves_343 ?_
        refine lv_bipush (v := 14) hx hb dX5_solves_346 (by decide) ?_
        refine lv_iload_n hx hb dX5_solves_348 rfl (lv_at hl 2 rfl) ?_
        refine lv_imul hx hb dX5_solves_349 ?_
        refine lv_bipush (v := 7) hx hb dX5_solves_350 (by decide) ?_
        refine lv_iadd hx hb dX5_solves_352 ?_
        refine lv_iload hx hb dX5_solves_353 (lv_at hl 3 rfl) ?_
        refine lv_iadd hx hb dX5_solves_355 ?_
        obtain ⟨hv_72, h⟩ := ob_in_s h
        refine va_lald hx hb hK hP 12 1 mw_rows rfl hv_72 dX5_solves_356 ?_
        refine lv_aload_n hx hb dX5_solves_357 rfl (lv_at hl 0 rfl) ?_
        refine va_get (D := D) (ci := 5) (v := .ref (ad 13)) (C := RX5) (T := TX5) (N := 31) hx hb hts ni_X5_solves_X5 hown hK hP 0 mw_M rfl 27 (by decide) (hts _ nf_X5_solves_f104) (fun _ h9 => h9) rfl dX5_solves_358 ?_
        refine lv_iload hx hb dX5_solves_361 (lv_at hl 3 rfl) ?_
        obtain ⟨hv_73, h⟩ := ob_in_s h
        refine va_lald hx hb hK hP 13 1 mw_right rfl hv_73 dX5_solves_363 ?_
        refine lv_lmul hx hb dX5_solves_364 ?_
        refine lv_ladd hx hb dX5_solves_365 ?_
        obtain ⟨hv_74, h⟩ := ob_in_s h
        refine va_last hx hb hK hP hD hS 14 1 mw_upper rfl hv_74 dX5_solves_366 (fun H locs hP hD hS => ?_)
        have hP := st_ps mw_s_upper hP
        have hD := st_ds mw_s_upper hD
        refine lv_iinc (v := x4 + (1 : Int32)) (lv' := [(4, .int (x4 + (1 : Int32))), (0, .ref (ad 0)), (2, .int x2), (3, .int x3)]) hx hb dX5_solves_367 hl (k := 3) rfl (congrArg (fun z => x4 + z) (by decide)) (by decide) rfl (fun ls hl => ?_)
        refine lv_goto (tgt := 321) hx hb dX5_solves_370 (by decide) ?_
        exact ih _ _ _ _ _ h hP hD hS (lv_sub hl [1, 2, 3, 0] rfl) kx0
set_option maxHeartbeats 4000000 in
set_option maxRecDepth 100000 in
theorem kX5_solves_L285 {l : Launch} {D : va_G} {cy : Nat → ClassId} {ad : Nat → Nat} {E : ke_T} {p : Program} {e : Env} {s : State} {m : MethodId} {args : Array Value} {below : List Frame} {meth : Method} {c : Code} {A : Nat → Prop} {Q : State → Prop} (C : km_C p s m args meth c cX5_solves 6 RX5 wsX5_solves none D (mw_t cy) E A) : ∀ (n : Nat) (x2 : Int32) (S : RSt) (S' : RSt) (h : fX5_solves_L285 n x2 S = some S') {H : Heap} {locs : List Loc} {ls : Array Slot} (hP : va_P D vwCl ((mw_w cy ad) S) H) (hD : va_D A ((mw_w cy ad) S)) (hS : va_S A s.heap H locs) (hl : lv_has ls 6 [(0, .ref (ad 0)), (2, .int x2)]) (kx0 : ∀ (H : Heap) (locs : List Loc) (ls : Array Slot), va_P D vwCl ((mw_w cy ad) S') H → va_D A ((mw_w cy ad) S') → va_S A s.heap H locs → lv_has ls 6 [] → W p l e rmX5_solves s m args below meth c H locs 0 0 Q (F0 m 379 ls [])), W p l e rmX5_solves s m args below meth c H locs 0 0 Q (F0 m 285 ls []) := by
  obtain ⟨⟨hx, hb, hml, hown, hts⟩, hr, hlk, hK, hA, hE, hEE⟩ := id C
  intro n
  induction n with
  | zero =>
    intro x2 S S' h
    rw [fX5_solves_L285] at h
    cases h
  | succ n ih =>
    intro x2 S S' h H locs ls hP hD hS hl kx0
    rw [fX5_solves_L285] at h
    refine lv_iload_n hx hb dX5_solves_285 rfl (lv_at hl 1 rfl) ?_
    refine lv_bipush (v := 8) hx hb dX5_solves_286 (by decide) ?_
    refine lv_icmp_ge (tgt := 379) hx hb dX5_solves_288 (by decide) (fun c_64 => ?_) (fun c_64 => ?_)
    · have h := ob_t c_64 h
      cases h
      exact kx0 _ _ _ hP hD hS (lv_sub hl [] rfl)
    · have h := ob_f c_64 h
      refine lv_iload_n hx hb dX5_solves_291 rfl (lv_at hl 1 rfl) ?_
      refine lv_aload_n hx hb dX5_solves_292 rfl (lv_at hl 0 rfl) ?_
      refine va_get (D := D) (ci := 5) (v := .ref (ad 2)) (C := RX5) (T := TX5) (N := 31) hx hb hts ni_X5_solves_X5 hown hK hP 0 mw_M rfl 11 (by decide) (hts _ nf_X5_solves_f70) (fun _ h9 => h9) rfl dX5_solves_293 ?_
      refine lv_iconst (v := 0) hx hb dX5_solves_296 (by decide) ?_
      obtain ⟨hv_65, h⟩ := ob_in_s h
      refine va_iald hx hb hK hP 2 0 mw_now rfl hv_65 dX5_solves_297 ?_
      obtain ⟨tJ_66, hT_77, h⟩ := ob_js h
      have kJ_66 : ∀ (sJ_66_0 : Int32) (S_67 : RSt) (_ : tJ_66 sJ_66_0 S_67 = some S') (H : Heap) (locs : List Loc) (ls : Array Slot), va_P D vwCl ((mw_w cy ad) S_67) H → va_D A ((mw_w cy ad) S_67) → va_S A s.heap H locs → lv_has ls 6 [(0, .ref (ad 0)), (2, .int x2)] → W p l e rmX5_solves s m args below meth c H locs 0 0 Q (F0 m 310 ls [.int sJ_66_0]) := by
        intro sJ_66_0 S_67 h H locs ls hP hD hS hl
        rw [← hT_77] at h
        refine lv_istore_n (lv' := [(3, .int sJ_66_0), (0, .ref (ad 0)), (2, .int x2)]) hx hb dX5_solves_310 rfl hl (by decide) rfl (fun ls hl => ?_)
        refine lv_aload_n hx hb dX5_solves_311 rfl (lv_at hl 1 rfl) ?_
        refine va_get (D := D) (ci := 5) (v := .ref (ad 14)) (C := RX5) (T := TX5) (N := 31) hx hb hts ni_X5_solves_X5 hown hK hP 0 mw_M rfl 28 (by decide) (hts _ nf_X5_solves_f107) (fun _ h9 => h9) rfl dX5_solves_312 ?_
        refine lv_iload_n hx hb dX5_solves_315 rfl (lv_at hl 2 rfl) ?_
        refine lv_lconst (v := 0) hx hb dX5_solves_316 (by decide) ?_
        obtain ⟨hv_68, h⟩ := ob_in_s h
        refine va_last hx hb hK hP hD hS 14 1 mw_upper rfl hv_68 dX5_solves_317 (fun H locs hP hD hS => ?_)
        have hP := st_ps mw_s_upper hP
        have hD := st_ds mw_s_upper hD
        refine lv_iconst (v := 0) hx hb dX5_solves_318 (by decide) ?_
        refine lv_istore (lv' := [(4, .int (0 : Int32)), (3, .int sJ_66_0), (0, .ref (ad 0)), (2, .int x2)]) hx hb dX5_solves_319 hl (by decide) rfl (fun ls hl => ?_)
        obtain ⟨S_76, hq_75, h⟩ := ob_1s h
        refine kX5_solves_L321  C _ _ _ _ _ _ hq_75 hP hD hS (lv_sub hl [2, 3, 1, 0] rfl) (fun H locs ls hP hD hS hl => ?_)
        refine lv_iinc (v := x2 + (1 : Int32)) (lv' := [(2, .int (x2 + (1 : Int32))), (0, .ref (ad 0))]) hx hb dX5_solves_373 hl (k := 1) rfl (congrArg (fun z => x2 + z) (by decide)) (by decide) rfl (fun ls hl => ?_)
        refine lv_goto (tgt := 285) hx hb dX5_solves_376 (by decide) ?_
        exact ih _ _ _ h hP hD hS (lv_sub hl [1, 0] rfl) kx0
      refine lv_icmp_ge (tgt := 309) hx hb dX5_solves_298 (by decide) (fun c_78 => ?_) (fun c_78 => ?_)
      · have h := ob_t c_78 h
        refine lv_iconst (v := -1) hx hb dX5_solves_309 (by decide) ?_
        exact kJ_66 _ _ h _ _ _ hP hD hS (lv_sub hl [0, 1] rfl)
      · have h := ob_f c_78 h
        refine lv_aload_n hx hb dX5_solves_301 rfl (lv_at hl 0 rfl) ?_
        refine lv_iload_n hx hb dX5_solves_302 rfl (lv_at hl 1 rfl) ?_
        obtain ⟨r_80, S_81, hc_79, h⟩ := ob_2s h
        refine km_cVi (As := [.int x2]) (rest := []) C (kX5_unknownOf hEE hc_79) (cwV 1 hts gX5_solves_X5_unknownOf rfl rfl rfl (by decide +kernel) ⟨(Nat.le_of_ble_eq_true rfl), (Nat.le_of_ble_eq_true rfl)⟩) mw_M rfl rfl rfl hP hD hS hl.1 rfl (Nat.le_of_ble_eq_true rfl) dX5_solves_303 (fun H locs hP hD hS => ?_)
        refine lv_goto (tgt := 310) hx hb dX5_solves_306 (by decide) ?_
        exact kJ_66 _ _ h _ _ _ hP hD hS (lv_sub hl [0, 1] rfl)
set_option maxHeartbeats 4000000 in
set_option maxRecDepth 100000 in
theorem kX5_solves {l : Launch} {D : va_G} {cy : Nat → ClassId} {ad : Nat → Nat} {E : ke_T} (hEE : km_E E) {x1 : Int32} {S : RSt} {S' : RSt} (h : fX5_solves x1 S = some S') : km_v l D (mw_t cy) (mw_w cy ad) E yX5_solves wsX5_solves rmX5_solves [.ref (ad 0), .int x1] S S' := by
  refine km_v_in (cc := cX5_solves) (nL := 6) hEE (by decide) rfl (Nat.le_of_ble_eq_true rfl) ?_
  intro p e s m below meth c A H ls C hP hD hS hl
  have C : km_C p s m _ meth c cX5_solves 6 RX5 wsX5_solves none D (mw_t cy) E A := C
  obtain ⟨⟨hx, hb, hml, hown, hts⟩, hr, hlk, hK, hA, hE, hEE⟩ := id C
  have hl : lv_has ls 6 [(0, .ref (ad 0)), (1, .int x1)] := hl
  unfold fX5_solves at h
  refine lv_aload_n hx hb dX5_solves_0 rfl (lv_at hl 0 rfl) ?_
  refine lv_iload_n hx hb dX5_solves_1 rfl (lv_at hl 1 rfl) ?_
  obtain ⟨S_3, hc_1, h⟩ := ob_1s h
  refine km_cVv (As := [.int x1]) (rest := []) C (kX5_laysPairs hEE hc_1) (cwV 1 hts gX5_solves_X5_laysPairs rfl rfl rfl (by decide +kernel) ⟨(Nat.le_of_ble_eq_true rfl), (Nat.le_of_ble_eq_true rfl)⟩) mw_M rfl rfl rfl hP hD hS hl.1 rfl (Nat.le_of_ble_eq_true rfl) dX5_solves_2 (fun H locs hP hD hS => ?_)
  refine lv_aload_n hx hb dX5_solves_5 rfl (lv_at hl 0 rfl) ?_
  obtain ⟨S_6, hc_4, h⟩ := ob_1s h
  refine km_cVv (As := []) (rest := []) C (kX5_laysParts hEE hc_4) (cwV 0 hts gX5_solves_X5_laysParts rfl rfl rfl (by decide +kernel) ⟨(Nat.le_of_ble_eq_true rfl), (Nat.le_of_ble_eq_true rfl)⟩) mw_M rfl rfl rfl hP hD hS hl.1 rfl (Nat.le_of_ble_eq_true rfl) dX5_solves_6 (fun H locs hP hD hS => ?_)
  refine lv_aload_n hx hb dX5_solves_9 rfl (lv_at hl 0 rfl) ?_
  refine lv_iconst (v := 0) hx hb dX5_solves_10 (by decide) ?_
  refine va_put (D := D) (ci := 5) (v := .int (0 : Int32)) (ty := .int) (C := RX5) (T := TX5) (N := 31) hx hb hts ni_X5_solves_X5 tyX5 tyX5_ok nmX5 hown hK hP hD hS 0 mw_M rfl 29 (by decide) (hts _ nf_X5_solves_f184) (fun _ h9 => h9) rfl (by decide +kernel) rfl rfl (Nat.le_of_ble_eq_true rfl) dX5_solves_11 (fun H locs hP hD hS => ?_)
  have hP := st_ps mw_s_many hP
  have hD := st_ds mw_s_many hD
  refine lv_iconst (v := 0) hx hb dX5_solves_14 (by decide) ?_
  refine lv_istore_n (lv' := [(2, .int (0 : Int32)), (0, .ref (ad 0)), (1, .int x1)]) hx hb dX5_solves_15 rfl hl (by decide) rfl (fun ls hl => ?_)
  obtain ⟨S_13, hq_12, h⟩ := ob_1s h
  refine kX5_solves_L16  C _ _ _ _ hq_12 hP hD hS (lv_sub hl [1, 0] rfl) (fun H locs ls hP hD hS hl => ?_)
  refine lv_iconst (v := 0) hx hb dX5_solves_65 (by decide) ?_
  refine lv_istore_n (lv' := [(2, .int (0 : Int32)), (0, .ref (ad 0))]) hx hb dX5_solves_66 rfl hl (by decide) rfl (fun ls hl => ?_)
  obtain ⟨S_17, hq_16, h⟩ := ob_1s h
  refine kX5_solves_L67  C _ _ _ _ hq_16 hP hD hS (lv_sub hl [1, 0] rfl) (fun H locs ls hP hD hS hl => ?_)
  refine lv_iconst (v := 0) hx hb dX5_solves_86 (by decide) ?_
  refine lv_istore_n (lv' := [(2, .int (0 : Int32)), (0, .ref (ad 0))]) hx hb dX5_solves_87 rfl hl (by decide) rfl (fun ls hl => ?_)
  obtain ⟨S_21, hq_20, h⟩ := ob_1s h
  refine kX5_solves_L88  C _ _ _ _ hq_20 hP hD hS (lv_sub hl [1, 0] rfl) (fun H locs ls hP hD hS hl => ?_)
  refine lv_iconst (v := 0) hx hb dX5_solves_107 (by decide) ?_
  refine lv_istore_n (lv' := [(2, .int (0 : Int32)), (0, .ref (ad 0))]) hx hb dX5_solves_108 rfl hl (by decide) rfl (fun ls hl => ?_)
  obtain ⟨S_25, hq_24, h⟩ := ob_1s h
  refine kX5_solves_L109  C _ _ _ _ hq_24 hP hD hS (lv_sub hl [1, 0] rfl) (fun H locs ls hP hD hS hl => ?_)
  refine lv_iconst (v := 0) hx hb dX5_solves_138 (by decide) ?_
  refine lv_istore_n (lv' := [(2, .int (0 : Int32)), (0, .ref (ad 0))]) hx hb dX5_solves_139 rfl hl (by decide) rfl (fun ls hl => ?_)
  obtain ⟨S_60, hq_59, h⟩ := ob_1s h
  refine kX5_solves_L140  C _ _ _ _ hq_59 hP hD hS (lv_sub hl [1, 0] rfl) (fun H locs ls hP hD hS hl => ?_)
  refine lv_aload_n hx hb dX5_solves_279 rfl (lv_at hl 0 rfl) ?_
  obtain ⟨S_63, hc_61, h⟩ := ob_1s h
  refine km_cVv (As := []) (rest := []) C (kX5_inverts hEE hc_61) (cwV 0 hts gX5_solves_X5_inverts rfl rfl rfl (by decide +kernel) ⟨(Nat.le_of_ble_eq_true rfl), (Nat.le_of_ble_eq_true rfl)⟩) mw_M rfl rfl rfl hP hD hS hl.1 rfl (Nat.le_of_ble_eq_true rfl) dX5_solves_280 (fun H locs hP hD hS => ?_)
  refine lv_iconst (v := 0) hx hb dX5_solves_283 (by decide) ?_
  refine lv_istore_n (lv' := [(2, .int (0 : Int32)), (0, .ref (ad 0))]) hx hb dX5_solves_284 rfl hl (by decide) rfl (fun ls hl => ?_)
  obtain ⟨S_83, hq_82, h⟩ := ob_1s h
  refine kX5_solves_L285  C _ _ _ _ hq_82 hP hD hS (lv_sub hl [1, 0] rfl) (fun H locs ls hP hD hS hl => ?_)
  obtain rfl := ob_v h
  exact km_vret C hP hD hS dX5_solves_379
