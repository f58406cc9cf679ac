def fX5_takes (x1 : Int32) (x2 : Int32) (S : RSt) : Option (Int32 × RSt) := (if (st_i S 5) = (3 : Int32) then (ob_2 (fX5_isIn (st_i S 6) x1 x2 S) fun r_3 S_4 => (if r_3 = 0 then (ob_2 (fX5_bad (2 : Int32) S_4) fun r_11 S_12 => (some (r_11, S_12))) else (ob_1 (fX5_go (st_si S_4 10 (st_i S_4 6))) fun S_9 => (some ((1 : Int32), S_9))))) else (ob_2 (fX5_bad (1 : Int32) S) fun r_15 S_16 => (some (r_15, S_16))))
abbrev rmX5_takes : Room := { frames := 2, cells := 0, slots := 0, locals := 45 }
theorem nf_X5_takes_f27 : Cond.fieldLink RX5 27 "RepeatIndexModel" "sort" "I" ∈ wsX5_takes := by decide +kernel
theorem ni_X5_takes_X5 : ∀ w ∈ u_ws RX5 TX5 31, w ∈ wsX5_takes := by decide +kernel
theorem nf_X5_takes_f41 : Cond.fieldLink RX5 41 "RepeatIndexModel" "number" "I" ∈ wsX5_takes := by decide +kernel
theorem nf_X5_takes_f117 : Cond.fieldLink RX5 117 "RepeatIndexModel" "got" "I" ∈ wsX5_takes := by decide +kernel
set_option maxHeartbeats 4000000 in
set_option maxRecDepth 100000 in
theorem kX5_takes {l : Launch} {D : va_G} {cy : Nat → ClassId} {ad : Nat → Nat} {E : ke_T} (hEE : km_E E) {x1 : Int32} {x2 : Int32} {S : RSt} {r : Int32} {S' : RSt} (h : fX5_takes x1 x2 S = some (r, S')) : km_z l D (mw_t cy) (mw_w cy ad) E yX5_takes wsX5_takes rmX5_takes [.ref (ad 0), .int x1, .int x2] S r S' := by
  refine km_z_in (cc := cX5_takes) (nL := 3) hEE (by decide) rfl (Nat.le_of_ble_eq_true rfl) ?_
  intro p e s m below meth c A H ls C hP hD hS hl
  have C : km_C p s m _ meth c cX5_takes 3 RX5 wsX5_takes (some .boolean) D (mw_t cy) E A := C
  obtain ⟨⟨hx, hb, hml, hown, hts⟩, hr, hlk, hK, hA, hE, hEE⟩ := id C
  have hl : lv_has ls 3 [(0, .ref (ad 0)), (1, .int x1), (2, .int x2)] := hl
  unfold fX5_takes at h
  refine lv_aload_n hx hb dX5_takes_0 rfl (lv_at hl 0 rfl) ?_
  refine va_get (D := D) (ci := 5) (v := .int (st_i S 5)) (C := RX5) (T := TX5) (N := 31) hx hb hts ni_X5_takes_X5 hown hK hP 0 mw_M rfl 6 (by decide) (hts _ nf_X5_takes_f27) (fun _ h9 => h9) rfl dX5_takes_1 ?_
  refine lv_iconst (v := 3) hx hb dX5_takes_4 (by decide) ?_
  refine lv_icmp_eq (tgt := 14) hx hb dX5_takes_5 (by decide) (fun c_1 => ?_) (fun c_1 => ?_)
  · have h := ob_t c_1 h
    refine lv_aload_n hx hb dX5_takes_14 rfl (lv_at hl 0 rfl) ?_
    refine va_get (D := D) (ci := 5) (v := .int (st_i S 6)) (C := RX5) (T := TX5) (N := 31) hx hb hts ni_X5_takes_X5 hown hK hP 0 mw_M rfl 7 (by decide) (hts _ nf_X5_takes_f41) (fun _ h9 => h9) rfl dX5_takes_15 ?_
    refine lv_iload_n hx hb dX5_takes_18 rfl (lv_at hl 1 rfl) ?_
    refine lv_iload_n hx hb dX5_takes_19 rfl (lv_at hl 2 rfl) ?_
    obtain ⟨r_3, S_4, hc_2, h⟩ := ob_2s h
    refine km_cSz (As := [.int (st_i S 6), .int x1, .int x2]) (rest := []) C (kX5_isIn hEE hc_2) (va_cwS 3 hts gX5_takes_X5_isIn rfl rfl rfl (by decide +kernel) ⟨(Nat.le_of_ble_eq_true rfl), (Nat.le_of_ble_eq_true rfl)⟩) rfl hP hD hS hl.1 rfl (Nat.le_of_ble_eq_true rfl) dX5_takes_20 (fun H locs hP hD hS hz_5 => ?_)
    refine lv_if_ne (tgt := 32) hx hb dX5_takes_23 (by decide) (fun c_6 => ?_) (fun c_6 => ?_)
    · have h := ob_f c_6 h
      refine lv_aload_n hx hb dX5_takes_32 rfl (lv_at hl 0 rfl) ?_
      refine lv_aload_n hx hb dX5_takes_33 rfl (lv_at hl 0 rfl) ?_
      refine va_get (D := D) (ci := 5) (v := .int (st_i S_4 6)) (C := RX5) (T := TX5) (N := 31) hx hb hts ni_X5_takes_X5 hown hK hP 0 mw_M rfl 7 (by decide) (hts _ nf_X5_takes_f41) (fun _ h9 => h9) rfl dX5_takes_34 ?_
      refine va_put (D := D) (ci := 5) (v := .int (st_i S_4 6)) (ty := .int) (C := RX5) (T := TX5) (N := 31) hx hb hts ni_X5_takes_X5 tyX5 tyX5_ok nmX5 hown hK hP hD hS 0 mw_M rfl 15 (by decide) (hts _ nf_X5_takes_f117) (fun _ h9 => h9) rfl (by decide +kernel) rfl rfl (Nat.le_of_ble_eq_true rfl) dX5_takes_37 (fun H locs hP hD hS => ?_)
      have hP := st_ps mw_s_got hP
      have hD := st_ds mw_s_got hD
      refine lv_aload_n hx hb dX5_takes_40 rfl (lv_at hl 0 rfl) ?_
      obtain ⟨S_9, hc_7, h⟩ := ob_1s h
      refine km_cVv (As := []) (rest := []) C (kX5_go hEE hc_7) (cwV 0 hts gX5_takes_X5_go rfl rfl rfl (by decide +kernel) ⟨(Nat.le_of_ble_eq_true rfl), (Nat.le_of_ble_eq_true rfl)⟩) mw_M rfl rfl rfl hP hD hS hl.1 rfl (Nat.le_of_ble_eq_true rfl) dX5_takes_41 (fun H locs hP hD hS => ?_)
      refine lv_iconst (v := 1) hx hb dX5_takes_44 (by decide) ?_
      obtain ⟨rfl, rfl⟩ := ob_w h
      exact km_zret C (by decide) hP hD hS dX5_takes_45
    · have h := ob_t c_6 h
      refine lv_aload_n hx hb dX5_takes_26 rfl (lv_at hl 0 rfl) ?_
      refine lv_iconst (v := 2) hx hb dX5_takes_27 (by decide) ?_
      obtain ⟨r_11, S_12, hc_10, h⟩ := ob_2s h
      refine km_cVz (As := [.int (2 : Int32)]) (rest := []) C (kX5_bad hEE hc_10) (cwV 1 hts gX5_takes_X5_bad rfl rfl rfl (by decide +kernel) ⟨(Nat.le_of_ble_eq_true rfl), (Nat.le_of_ble_eq_true rfl)⟩) mw_M rfl rfl rfl hP hD hS hl.1 rfl (Nat.le_of_ble_eq_true rfl) dX5_takes_28 (fun H locs hP hD hS hz_13 => ?_)
      obtain ⟨rfl, rfl⟩ := ob_w h
      exact km_zret C hz_13 hP hD hS dX5_takes_31
  · have h := ob_f c_1 h
    refine lv_aload_n hx hb dX5_takes_8 rfl (lv_at hl 0 rfl) ?_
    refine lv_iconst (v := 1) hx hb dX5_takes_9 (by decide) ?_
    obtain ⟨r_15, S_16, hc_14, h⟩ := ob_2s h
    refine km_cVz (As := [.int (1 : Int32)]) (rest := []) C (kX5_bad hEE hc_14) (cwV 1 hts gX5_takes_X5_bad rfl rfl rfl (by decide +kernel) ⟨(Nat.le_of_ble_eq_true rfl), (Nat.le_of_ble_eq_true rfl)⟩) mw_M rfl rfl rfl hP hD hS hl.1 rfl (Nat.le_of_ble_eq_true rfl) dX5_takes_10 (fun H locs hP hD hS hz_17 => ?_)
    obtain ⟨rfl, rfl⟩ := ob_w h
    exact km_zret C hz_17 hP hD hS dX5_takes_13
def fX5_readEnd (S : RSt) : Option (Int32 × RSt) := (if (st_i S 5) = (4 : Int32) then (ob_1 (fX5_go S) fun S_4 => (some ((1 : Int32), S_4))) else (ob_2 (fX5_bad (1 : Int32) S) fun r_6 S_7 => (some (r_6, S_7))))
abbrev rmX5_readEnd : Room := { frames := 2, cells := 0, slots := 0, locals := 45 }
theorem nf_X5_readEnd_f27 : Cond.fieldLink RX5 27 "RepeatIndexModel" "sort" "I" ∈ wsX5_readEnd := by decide +kernel
theorem ni_X5_readEnd_X5 : ∀ w ∈ u_ws RX5 TX5 31, w ∈ wsX5_readEnd := by decide +kernel
set_option maxHeartbeats 4000000 in
set_option maxRecDepth 100000 in
theorem kX5_readEnd {l : Launch} {D : va_G} {cy : Nat → ClassId} {ad : Nat → Nat} {E : ke_T} (hEE : km_E E) {S : RSt} {r : Int32} {S' : RSt} (h : fX5_readEnd S = some (r, S')) : km_z l D (mw_t cy) (mw_w cy ad) E yX5_readEnd wsX5_readEnd rmX5_readEnd [.ref (ad 0)] S r S' := by
  refine km_z_in (cc := cX5_readEnd) (nL := 1) hEE (by decide) rfl (Nat.le_of_ble_eq_true rfl) ?_
  intro p e s m below meth c A H ls C hP hD hS hl
  have C : km_C p s m _ meth c cX5_readEnd 1 RX5 wsX5_readEnd (some .boolean) D (mw_t cy) E A := C
  obtain ⟨⟨hx, hb, hml, hown, hts⟩, hr, hlk, hK, hA, hE, hEE⟩ := id C
  have hl : lv_has ls 1 [(0, .ref (ad 0))] := hl
  unfold fX5_readEnd at h
  refine lv_aload_n hx hb dX5_readEnd_0 rfl (lv_at hl 0 rfl) ?_
  refine va_get (D := D) (ci := 5) (v := .int (st_i S 5)) (C := RX5) (T := TX5) (N := 31) hx hb hts ni_X5_readEnd_X5 hown hK hP 0 mw_M rfl 6 (by decide) (hts _ nf_X5_readEnd_f27) (fun _ h9 => h9) rfl dX5_readEnd_1 ?_
  refine lv_iconst (v := 4) hx hb dX5_readEnd_4 (by decide) ?_
  refine lv_icmp_eq (tgt := 14) hx hb dX5_readEnd_5 (by decide) (fun c_1 => ?_) (fun c_1 => ?_)
  · have h := ob_t c_1 h
    refine lv_aload_n hx hb dX5_readEnd_14 rfl (lv_at hl 0 rfl) ?_
    obtain ⟨S_4, hc_2, h⟩ := ob_1s h
    refine km_cVv (As := []) (rest := []) C (kX5_go hEE hc_2) (cwV 0 hts gX5_readEnd_X5_go rfl rfl rfl (by decide +kernel) ⟨(Nat.le_of_ble_eq_true rfl), (Nat.le_of_ble_eq_true rfl)⟩) mw_M rfl rfl rfl hP hD hS hl.1 rfl (Nat.le_of_ble_eq_true rfl) dX5_readEnd_15 (fun H locs hP hD hS => ?_)
    refine lv_iconst (v := 1) hx hb dX5_readEnd_18 (by decide) ?_
    obtain ⟨rfl, rfl⟩ := ob_w h
    exact km_zret C (by decide) hP hD hS dX5_readEnd_19
  · have h := ob_f c_1 h
    refine lv_aload_n hx hb dX5_readEnd_8 rfl (lv_at hl 0 rfl) ?_
    refine lv_iconst (v := 1) hx hb dX5_readEnd_9 (by decide) ?_
    obtain ⟨r_6, S_7, hc_5, h⟩ := ob_2s h
    refine km_cVz (As := [.int (1 : Int32)]) (rest := []) C (kX5_bad hEE hc_5) (cwV 1 hts gX5_readEnd_X5_bad rfl rfl rfl (by decide +kernel) ⟨(Nat.le_of_ble_eq_true rfl), (Nat.le_of_ble_eq_true rfl)⟩) mw_M rfl rfl rfl hP hD hS hl.1 rfl (Nat.le_of_ble_eq_true rfl) dX5_readEnd_10 (fun H locs hP hD hS hz_8 => ?_)
    obtain ⟨rfl, rfl⟩ := ob_w h
    exact km_zret C hz_8 hP hD hS dX5_readEnd_13
def fX5_readMonths (S : RSt) : Option (Int32 × RSt) := (ob_2 (fX5_four (109 : Int32) (111 : Int32) (110 : Int32) (116 : Int32) S) fun r_2 S_3 => (ob_2 (fX5_two (104 : Int32) (115 : Int32) S_3) fun r_5 S_6 => (ob_2 (fX5_isWord (((729 : Int64) * r_2) + r_5) S_6) fun r_8 S_9 => (if r_8 = 0 then (ob_2 (fX5_bad (1 : Int32) S_9) fun r_26 S_27 => (some (r_26, S_27))) else (ob_1 (fX5_go S_9) fun S_14 => (ob_2 (fX5_takes (2 : Int32) (8 : Int32) S_14) fun r_16 S_17 => (if r_16 = 0 then (some ((0 : Int32), S_17)) else (ob_in (0 : Int32) 58 (ob_2 (fX5_readEnd (st_sa S_17 2 (0 : Int32).toNatClampNeg (st_i S_17 10))) fun r_22 S_23 => (some (r_22, S_23)))))))))))
abbrev rmX5_readMonths : Room := { frames := 3, cells := 0, slots := 0, locals := 67 }
theorem nf_X5_readMonths_c52 : Cond.constantLong RX5 52 (729) ∈ wsX5_readMonths := by decide +kernel
theorem nf_X5_readMonths_f73 : Cond.fieldLink RX5 73 "RepeatIndexModel" "read" "[I" ∈ wsX5_readMonths := by decide +kernel
theorem ni_X5_readMonths_X5 : ∀ w ∈ u_ws RX5 TX5 31, w ∈ wsX5_readMonths := by decide +kernel
theorem nf_X5_readMonths_f117 : Cond.fieldLink RX5 117 "RepeatIndexModel" "got" "I" ∈ wsX5_readMonths := by decide +kernel
set_option maxHeartbeats 4000000 in
set_option maxRecDepth 100000 in
theorem kX5_readMonths {l : Launch} {D : va_G} {cy : Nat → ClassId} {ad : Nat → Nat} {E : ke_T} (hEE : km_E E) {S : RSt} {r : Int32} {S' : RSt} (h : fX5_readMonths S = some (r, S')) : km_z l D (mw_t cy) (mw_w cy ad) E yX5_readMonths wsX5_readMonths rmX5_readMonths [.ref (ad 0)] S r S' := by
  refine km_z_in (cc := cX5_readMonths) (nL := 1) hEE (by decide) rfl (Nat.le_of_ble_eq_true rfl) ?_
  intro p e s m below meth c A H ls C hP hD hS hl
  have C : km_C p s m _ meth c cX5_readMonths 1 RX5 wsX5_readMonths (some .boolean) D (mw_t cy) E A := C
  obtain ⟨⟨hx, hb, hml, hown, hts⟩, hr, hlk, hK, hA, hE, hEE⟩ := id C
  have hl : lv_has ls 1 [(0, .ref (ad 0))] := hl
  unfold fX5_readMonths at h
  refine lv_aload_n hx hb dX5_readMonths_0 rfl (lv_at hl 0 rfl) ?_
  refine lv_ldc2 (v := 729) hx hb hown (hts _ nf_X5_readMonths_c52) dX5_readMonths_1 ?_
  refine lv_bipush (v := 109) hx hb dX5_readMonths_4 (by decide) ?_
  refine lv_bipush (v := 111) hx hb dX5_readMonths_6 (by decide) ?_
  refine lv_bipush (v := 110) hx hb dX5_readMonths_8 (by decide) ?_
  refine lv_bipush (v := 116) hx hb dX5_readMonths_10 (by decide) ?_
  obtain ⟨r_2, S_3, hc_1, h⟩ := ob_2s h
  refine km_cSl (As := [.int (109 : Int32), .int (111 : Int32), .int (110 : Int32), .int (116 : Int32)]) (rest := [.long (729 : Int64), .ref (ad 0)]) C (kX5_four hEE hc_1) (va_cwS 4 hts gX5_readMonths_X5_four rfl rfl rfl (by decide +kernel) ⟨(Nat.le_of_ble_eq_true rfl), (Nat.le_of_ble_eq_true rfl)⟩) rfl hP hD hS hl.1 rfl (Nat.le_of_ble_eq_true rfl) dX5_readMonths_12 (fun H locs hP hD hS => ?_)
  refine lv_lmul hx hb dX5_readMonths_15 ?_
  refine lv_bipush (v := 104) hx hb dX5_readMonths_16 (by decide) ?_
  refine lv_bipush (v := 115) hx hb dX5_readMonths_18 (by decide) ?_
  obtain ⟨r_5, S_6, hc_4, h⟩ := ob_2s h
  refine km_cSl (As := [.int (104 : Int32), .int (115 : Int32)]) (rest := [.long ((729 : Int64) * r_2), .ref (ad 0)]) C (kX5_two hEE hc_4) (va_cwS 2 hts gX5_readMonths_X5_two rfl rfl rfl (by decide +kernel) ⟨(Nat.le_of_ble_eq_true rfl), (Nat.le_of_ble_eq_true rfl)⟩) rfl hP hD hS hl.1 rfl (Nat.le_of_ble_eq_true rfl) dX5_readMonths_20 (fun H locs hP hD hS => ?_)
  refine lv_ladd hx hb dX5_readMonths_23 ?_
  obtain ⟨r_8, S_9, hc_7, h⟩ := ob_2s h
  refine km_cVz (As := [.long (((729 : Int64) * r_2) + r_5)]) (rest := []) C (kX5_isWord hEE hc_7) (cwV 1 hts gX5_readMonths_X5_isWord rfl rfl rfl (by decide +kernel) ⟨(Nat.le_of_ble_eq_true rfl), (Nat.le_of_ble_eq_true rfl)⟩) mw_M rfl rfl rfl hP hD hS hl.1 rfl (Nat.le_of_ble_eq_true rfl) dX5_readMonths_24 (fun H locs hP hD hS hz_10 => ?_)
  refine lv_if_ne (tgt := 36) hx hb dX5_readMonths_27 (by decide) (fun c_11 => ?_) (fun c_11 => ?_)
  · have h := ob_f c_11 h
    refine lv_aload_n hx hb dX5_readMonths_36 rfl (lv_at hl 0 rfl) ?_
    obtain ⟨S_14, hc_12, h⟩ := ob_1s h
    refine km_cVv (As := []) (rest := []) C (kX5_go hEE hc_12) (cwV 0 hts gX5_readMonths_X5_go rfl rfl rfl (by decide +kernel) ⟨(Nat.le_of_ble_eq_true rfl), (Nat.le_of_ble_eq_true rfl)⟩) mw_M rfl rfl rfl hP hD hS hl.1 rfl (Nat.le_of_ble_eq_true rfl) dX5_readMonths_37 (fun H locs hP hD hS => ?_)
    refine lv_aload_n hx hb dX5_readMonths_40 rfl (lv_at hl 0 rfl) ?_
    refine lv_iconst (v := 2) hx hb dX5_readMonths_41 (by decide) ?_
    refine lv_bipush (v := 8) hx hb dX5_readMonths_42 (by decide) ?_
    obtain ⟨r_16, S_17, hc_15, h⟩ := ob_2s h
    refine km_cVz (As := [.int (2 : Int32), .int (8 : Int32)]) (rest := []) C (kX5_takes hEE hc_15) (cwV 2 hts gX5_readMonths_X5_takes rfl rfl rfl (by decide +kernel) ⟨(Nat.le_of_ble_eq_true rfl), (Nat.le_of_ble_eq_true rfl)⟩) mw_M rfl rfl rfl hP hD hS hl.1 rfl (Nat.le_of_ble_eq_true rfl) dX5_readMonths_44 (fun H locs hP hD hS hz_18 => ?_)
    refine lv_if_ne (tgt := 52) hx hb dX5_readMonths_47 (by decide) (fun c_19 => ?_) (fun c_19 => ?_)
    · have h := ob_f c_19 h
      refine lv_aload_n hx hb dX5_readMonths_52 rfl (lv_at hl 0 rfl) ?_
      refine va_get (D := D) (ci := 5) (v := .ref (ad 3)) (C := RX5) (T := TX5) (N := 31) hx hb hts ni_X5_readMonths_X5 hown hK hP 0 mw_M rfl 12 (by decide) (hts _ nf_X5_readMonths_f73) (fun _ h9 => h9) rfl dX5_readMonths_53 ?_
      refine lv_iconst (v := 0) hx hb dX5_readMonths_56 (by decide) ?_
      refine lv_aload_n hx hb dX5_readMonths_57 rfl (lv_at hl 0 rfl) ?_
      refine va_get (D := D) (ci := 5) (v := .int (st_i S_17 10)) (C := RX5) (T := TX5) (N := 31) hx hb hts ni_X5_readMonths_X5 hown hK hP 0 mw_M rfl 15 (by decide) (hts _ nf_X5_readMonths_f117) (fun _ h9 => h9) rfl dX5_readMonths_58 ?_
      obtain ⟨hv_20, h⟩ := ob_in_s h
      refine va_iast hx hb hK hP hD hS 3 0 mw_read rfl hv_20 dX5_readMonths_61 (fun H locs hP hD hS => ?_)
      have hP := st_ps mw_s_read hP
      have hD := st_ds mw_s_read hD
      refine lv_aload_n hx hb dX5_readMonths_62 rfl (lv_at hl 0 rfl) ?_
      obtain ⟨r_22, S_23, hc_21, h⟩ := ob_2s h
      refine km_cVz (As := []) (rest := []) C (kX5_readEnd hEE hc_21) (cwV 0 hts gX5_readMonths_X5_readEnd rfl rfl rfl (by decide +kernel) ⟨(Nat.le_of_ble_eq_true rfl), (Nat.le_of_ble_eq_true rfl)⟩) mw_M rfl rfl rfl hP hD hS hl.1 rfl (Nat.le_of_ble_eq_true rfl) dX5_readMonths_63 (fun H locs hP hD hS hz_24 => ?_)
      obtain ⟨rfl, rfl⟩ := ob_w h
      exact km_zret C hz_24 hP hD hS dX5_readMonths_66
    · have h := ob_t c_19 h
      refine lv_iconst (v := 0) hx hb dX5_readMonths_50 (by decide) ?_
      obtain ⟨rfl, rfl⟩ := ob_w h
      exact km_zret C (by decide) hP hD hS dX5_readMonths_51
  · have h := ob_t c_11 h
    refine lv_aload_n hx hb dX5_readMonths_30 rfl (lv_at hl 0 rfl) ?_
    refine lv_iconst (v := 1) hx hb dX5_readMonths_31 (by decide) ?_
    obtain ⟨r_26, S_27, hc_25, h⟩ := ob_2s h
    refine km_cVz (As := [.int (1 : Int32)]) (rest := []) C (kX5_bad hEE hc_25) (cwV 1 hts gX5_readMonths_X5_bad rfl rfl rfl (by decide +kernel) ⟨(Nat.le_of_ble_eq_true rfl), (Nat.le_of_ble_eq_true rfl)⟩) mw_M rfl rfl rfl hP hD hS hl.1 rfl (Nat.le_of_ble_eq_true rfl) dX5_readMonths_32 (fun H locs hP hD hS hz_28 => ?_)
    obtain ⟨rfl, rfl⟩ := ob_w h
    exact km_zret C hz_28 hP hD hS dX5_readMonths_35
def fX5_readWeigh (S : RSt) : Option (Int32 × RSt) := (ob_1 (fX5_go S) fun S_3 => (if (st_i S_3 5) = (3 : Int32) then (ob_in (0 : Int32) 58 (ob_2 (fX5_isIn (st_i S_3 6) (1 : Int32) ((st_a S_3 2 (0 : Int32).toNatClampNeg) - (1 : Int32)) S_3) fun r_7 S_8 => (if r_7 = 0 then (ob_2 (fX5_bad (2 : Int32) S_8) fun r_12 S_13 => (some (r_12, S_13))) else (ob_in ((2 : Int32) + (st_i S_8 6)) 58 (if (st_a S_8 2 ((2 : Int32) + (st_i S_8 6)).toNatClampNeg) ≤ 0 then (ob_1 (fX5_go S_8) fun S_19 => (ob_2 (fX5_takes (1 : Int32) (3 : Int32) S_19) fun r_21 S_22 => (if r_21 = 0 then (some ((0 : Int32), S_22)) else (ob_in ((2 : Int32) + (st_i S_8 6)) 58 (ob_2 (fX5_readEnd (st_sa S_22 2 ((2 : Int32) + (st_i S_8 6)).toNatClampNeg (st_i S_22 10))) fun r_27 S_28 => (some (r_27, S_28))))))) else (ob_2 (fX5_bad (2 : Int32) S_8) fun r_31 S_32 => (some (r_31, S_32)))))))) else (ob_2 (fX5_bad (1 : Int32) S_3) fun r_35 S_36 => (some (r_35, S_36)))))
abbrev rmX5_readWeigh : Room := { frames := 3, cells := 0, slots := 0, locals := 67 }
theorem nf_X5_readWeigh_f27 : Cond.fieldLink RX5 27 "RepeatIndexModel" "sort" "I" ∈ wsX5_readWeigh := by decide +kernel
theorem ni_X5_readWeigh_X5 : ∀ w ∈ u_ws RX5 TX5 31, w ∈ wsX5_readWeigh := by decide +kernel
theorem nf_X5_readWeigh_f41 : Cond.fieldLink RX5 41 "RepeatIndexModel" "number" "I" ∈ wsX5_readWeigh := by decide +kernel
theorem nf_X5_readWeigh_f73 : Cond.fieldLink RX5 73 "RepeatIndexModel" "read" "[I" ∈ wsX5_readWeigh := by decide +kernel
theorem nf_X5_readWeigh_f117 : Cond.fieldLink RX5 117 "RepeatIndexModel" "got" "I" ∈ wsX5_readWeigh := by decide +kernel
set_option maxHeartbeats 4000000 in
set_option maxRecDepth 100000 in
theorem kX5_readWeigh {l : Launch} {D : va_G} {cy : Nat → ClassId} {ad : Nat → Nat} {E : ke_T} (hEE : km_E E) {S : RSt} {r : Int32} {S' : RSt} (h : fX5_readWeigh S = some (r, S')) : km_z l D (mw_t cy) (mw_w cy ad) E yX5_readWeigh wsX5_readWeigh rmX5_readWeigh [.ref (ad 0)] S r S' := by
  refine km_z_in (cc := cX5_readWeigh) (nL := 2) hEE (by decide) rfl (Nat.le_of_ble_eq_true rfl) ?_
  intro p e s m below meth c A H ls C hP hD hS hl
  have C : km_C p s m _ meth c cX5_readWeigh 2 RX5 wsX5_readWeigh (some .boolean) D (mw_t cy) E A := C
  obtain ⟨⟨hx, hb, hml, hown, hts⟩, hr, hlk, hK, hA, hE, hEE⟩ := id C
  have hl : lv_has ls 2 [(0, .ref (ad 0))] := hl
  unfold fX5_readWeigh at h
  refine lv_aload_n hx hb dX5_readWeigh_0 rfl (lv_at hl 0 rfl) ?_
  obtain ⟨S_3, hc_1, h⟩ := ob_1s h
  refine km_cVv (As := []) (rest := []) C (kX5_go hEE hc_1) (cwV 0 hts gX5_readWeigh_X5_go rfl rfl rfl (by decide +kernel) ⟨(Nat.le_of_ble_eq_true rfl), (Nat.le_of_ble_eq_true rfl)⟩) mw_M rfl rfl rfl hP hD hS hl.1 rfl (Nat.le_of_ble_eq_true rfl) dX5_readWeigh_1 (fun H locs hP hD hS => ?_)
  refine lv_aload_n hx hb dX5_readWeigh_4 rfl (lv_at hl 0 rfl) ?_
  refine va_get (D := D) (ci := 5) (v := .int (st_i S_3 5)) (C := RX5) (T := TX5) (N := 31) hx hb hts ni_X5_readWeigh_X5 hown hK hP 0 mw_M rfl 6 (by decide) (hts _ nf_X5_readWeigh_f27) (fun _ h9 => h9) rfl dX5_readWeigh_5 ?_
  refine lv_iconst (v := 3) hx hb dX5_readWeigh_8 (by decide) ?_
  refine lv_icmp_eq (tgt := 18) hx hb dX5_readWeigh_9 (by decide) (fun c_4 => ?_) (fun c_4 => ?_)
  · have h := ob_t c_4 h
    refine lv_aload_n hx hb dX5_readWeigh_18 rfl (lv_at hl 0 rfl) ?_
    refine va_get (D := D) (ci := 5) (v := .int (st_i S_3 6)) (C := RX5) (T := TX5) (N := 31) hx hb hts ni_X5_readWeigh_X5 hown hK hP 0 mw_M rfl 7 (by decide) (hts _ nf_X5_readWeigh_f41) (fun _ h9 => h9) rfl dX5_readWeigh_19 ?_
    refine lv_iconst (v := 1) hx hb dX5_readWeigh_22 (by decide) ?_
    refine lv_aload_n hx hb dX5_readWeigh_23 rfl (lv_at hl 0 rfl) ?_
    refine va_get (D := D) (ci := 5) (v := .ref (ad 3)) (C := RX5) (T := TX5) (N := 31) hx hb hts ni_X5_readWeigh_X5 hown hK hP 0 mw_M rfl 12 (by decide) (hts _ nf_X5_readWeigh_f73) (fun _ h9 => h9) rfl dX5_readWeigh_24 ?_
    refine lv_iconst (v := 0) hx hb dX5_readWeigh_27 (by decide) ?_
    obtain ⟨hv_5, h⟩ := ob_in_s h
    refine va_iald hx hb hK hP 3 0 mw_read rfl hv_5 dX5_readWeigh_28 ?_
    refine lv_iconst (v := 1) hx hb dX5_readWeigh_29 (by decide) ?_
    refine lv_isub hx hb dX5_readWeigh_30 ?_
    obtain ⟨r_7, S_8, hc_6, h⟩ := ob_2s h
    refine km_cSz (As := [.int (st_i S_3 6), .int (1 : Int32), .int ((st_a S_3 2 (0 : Int32).toNatClampNeg) - (1 : Int32))]) (rest := []) C (kX5_isIn hEE hc_6) (va_cwS 3 hts gX5_readWeigh_X5_isIn rfl rfl rfl (by decide +kernel) ⟨(Nat.le_of_ble_eq_true rfl), (Nat.le_of_ble_eq_true rfl)⟩) rfl hP hD hS hl.1 rfl (Nat.le_of_ble_eq_true rfl) dX5_readWeigh_31 (fun H locs hP hD hS hz_9 => ?_)
    refine lv_if_eq (tgt := 51) hx hb dX5_readWeigh_34 (by decide) (fun c_10 => ?_) (fun c_10 => ?_)
    · have h := ob_t c_10 h
      refine lv_aload_n hx hb dX5_readWeigh_51 rfl (lv_at hl 0 rfl) ?_
      refine lv_iconst (v := 2) hx hb dX5_readWeigh_52 (by decide) ?_
      obtain ⟨r_12, S_13, hc_11, h⟩ := ob_2s h
      refine km_cVz (As := [.int (2 : Int32)]) (rest := []) C (kX5_bad hEE hc_11) (cwV 1 hts gX5_readWeigh_X5_bad rfl rfl rfl (by decide +kernel) ⟨(Nat.le_of_ble_eq_true rfl), (Nat.le_of_ble_eq_true rfl)⟩) mw_M rfl rfl rfl hP hD hS hl.1 rfl (Nat.le_of_ble_eq_true rfl) dX5_readWeigh_53 (fun H locs hP hD hS hz_14 => ?_)
      obtain ⟨rfl, rfl⟩ := ob_w h
      exact km_zret C hz_14 hP hD hS dX5_readWeigh_56
    · have h := ob_f c_10 h
      refine lv_aload_n hx hb dX5_readWeigh_37 rfl (lv_at hl 0 rfl) ?_
      refine va_get (D := D) (ci := 5) (v := .ref (ad 3)) (C := RX5) (T := TX5) (N := 31) hx hb hts ni_X5_readWeigh_X5 hown hK hP 0 mw_M rfl 12 (by decide) (hts _ nf_X5_readWeigh_f73) (fun _ h9 => h9) rfl dX5_readWeigh_38 ?_
      refine lv_iconst (v := 2) hx hb dX5_readWeigh_41 (by decide) ?_
      refine lv_aload_n hx hb dX5_readWeigh_42 rfl (lv_at hl 0 rfl) ?_
      refine va_get (D := D) (ci := 5) (v := .int (st_i S_8 6)) (C := RX5) (T := TX5) (N := 31) hx hb hts ni_X5_readWeigh_X5 hown hK hP 0 mw_M rfl 7 (by decide) (hts _ nf_X5_readWeigh_f41) (fun _ h9 => h9) rfl dX5_readWeigh_43 ?_
      refine lv_iadd hx hb dX5_readWeigh_46 ?_
      obtain ⟨hv_15, h⟩ := ob_in_s h
      refine va_iald hx hb hK hP 3 0 mw_read rfl hv_15 dX5_readWeigh_47 ?_
      refine lv_if_le (tgt := 57) hx hb dX5_readWeigh_48 (by decide) (fun c_16 => ?_) (fun c_16 => ?_)
      · have h := ob_t c_16 h
        refine lv_aload_n hx hb dX5_readWeigh_57 rfl (lv_at hl 0 rfl) ?_
        refine va_get (D := D) (ci := 5) (v := .int (st_i S_8 6)) (C := RX5) (T := TX5) (N := 31) hx hb hts ni_X5_readWeigh_X5 hown hK hP 0 mw_M rfl 7 (by decide) (hts _ nf_X5_readWeigh_f41) (fun _ h9 => h9) rfl dX5_readWeigh_58 ?_
        refine lv_istore_n (lv' := [(1, .int (st_i S_8 6)), (0, .ref (ad 0))]) hx hb dX5_readWeigh_61 rfl hl (by decide) rfl (fun ls hl => ?_)
        refine lv_aload_n hx hb dX5_readWeigh_62 rfl (lv_at hl 1 rfl) ?_
        obtain ⟨S_19, hc_17, h⟩ := ob_1s h
        refine km_cVv (As := []) (rest := []) C (kX5_go hEE hc_17) (cwV 0 hts gX5_readWeigh_X5_go rfl rfl rfl (by decide +kernel) ⟨(Nat.le_of_ble_eq_true rfl), (Nat.le_of_ble_eq_true rfl)⟩) mw_M rfl rfl rfl hP hD hS hl.1 rfl (Nat.le_of_ble_eq_true rfl) dX5_readWeigh_63 (fun H locs hP hD hS => ?_)
        refine lv_aload_n hx hb dX5_readWeigh_66 rfl (lv_at hl 1 rfl) ?_
        refine lv_iconst (v := 1) hx hb dX5_readWeigh_67 (by decide) ?_
        refine lv_iconst (v := 3) hx hb dX5_readWeigh_68 (by decide) ?_
        obtain ⟨r_21, S_22, hc_20, h⟩ := ob_2s h
        refine km_cVz (As := [.int (1 : Int32), .int (3 : Int32)]) (rest := []) C (kX5_takes hEE hc_20) (cwV 2 hts gX5_readWeigh_X5_takes rfl rfl rfl (by decide +kernel) ⟨(Nat.le_of_ble_eq_true rfl), (Nat.le_of_ble_eq_true rfl)⟩) mw_M rfl rfl rfl hP hD hS hl.1 rfl (Nat.le_of_ble_eq_true rfl) dX5_readWeigh_69 (fun H locs hP hD hS hz_23 => ?_)
        refine lv_if_ne (tgt := 77) hx hb dX5_readWeigh_72 (by decide) (fun c_24 => ?_) (fun c_24 => ?_)
        · have h := ob_f c_24 h
          refine lv_aload_n hx hb dX5_readWeigh_77 rfl (lv_at hl 1 rfl) ?_
          refine va_get (D := D) (ci := 5) (v := .ref (ad 3)) (C := RX5) (T := TX5) (N := 31) hx hb hts ni_X5_readWeigh_X5 hown hK hP 0 mw_M rfl 12 (by decide) (hts _ nf_X5_readWeigh_f73) (fun _ h9 => h9) rfl dX5_readWeigh_78 ?_
          refine lv_iconst (v := 2) hx hb dX5_readWeigh_81 (by decide) ?_
          refine lv_iload_n hx hb dX5_readWeigh_82 rfl (lv_at hl 0 rfl) ?_
          refine lv_iadd hx hb dX5_readWeigh_83 ?_
          refine lv_aload_n hx hb dX5_readWeigh_84 rfl (lv_at hl 1 rfl) ?_
          refine va_get (D := D) (ci := 5) (v := .int (st_i S_22 10)) (C := RX5) (T := TX5) (N := 31) hx hb hts ni_X5_readWeigh_X5 hown hK hP 0 mw_M rfl 15 (by decide) (hts _ nf_X5_readWeigh_f117) (fun _ h9 => h9) rfl dX5_readWeigh_85 ?_
          obtain ⟨hv_25, h⟩ := ob_in_s h
          refine va_iast hx hb hK hP hD hS 3 0 mw_read rfl hv_25 dX5_readWeigh_88 (fun H locs hP hD hS => ?_)
          have hP := st_ps mw_s_read hP
          have hD := st_ds mw_s_read hD
          refine lv_aload_n hx hb dX5_readWeigh_89 rfl (lv_at hl 1 rfl) ?_
          obtain ⟨r_27, S_28, hc_26, h⟩ := ob_2s h
          refine km_cVz (As := []) (rest := []) C (kX5_readEnd hEE hc_26) (cwV 0 hts gX5_readWeigh_X5_readEnd rfl rfl rfl (by decide +kernel) ⟨(Nat.le_of_ble_eq_true rfl), (Nat.le_of_ble_eq_true rfl)⟩) mw_M rfl rfl rfl hP hD hS hl.1 rfl (Nat.le_of_ble_eq_true rfl) dX5_readWeigh_90 (fun H locs hP hD hS hz_29 => ?_)
          obtain ⟨rfl, rfl⟩ := ob_w h
          exact km_zret C hz_29 hP hD hS dX5_readWeigh_93
        · have h := ob_t c_24 h
          refine lv_iconst (v := 0) hx hb dX5_readWeigh_75 (by decide) ?_
          obtain ⟨rfl, rfl⟩ := ob_w h
          exact km_zret C (by decide) hP hD hS dX5_readWeigh_76
      · have h := ob_f c_16 h
        refine lv_aload_n hx hb dX5_readWeigh_51 rfl (lv_at hl 0 rfl) ?_
        refine lv_iconst (v := 2) hx hb dX5_readWeigh_52 (by decide) ?_
        obtain ⟨r_31, S_32, hc_30, h⟩ := ob_2s h
        refine km_cVz (As := [.int (2 : Int32)]) (rest := []) C (kX5_bad hEE hc_30) (cwV 1 hts gX5_readWeigh_X5_bad rfl rfl rfl (by decide +kernel) ⟨(Nat.le_of_ble_eq_true rfl), (Nat.le_of_ble_eq_true rfl)⟩) mw_M rfl rfl rfl hP hD hS hl.1 rfl (Nat.le_of_ble_eq_true rfl) dX5_readWeigh_53 (fun H locs hP hD hS hz_33 => ?_)
        obtain ⟨rfl, rfl⟩ := ob_w h
        exact km_zret C hz_33 hP hD hS dX5_readWeigh_56
  · have h := ob_f c_4 h
    refine lv_aload_n hx hb dX5_readWeigh_12 rfl (lv_at hl 0 rfl) ?_
    refine lv_iconst (v := 1) hx hb dX5_readWeigh_13 (by decide) ?_
    obtain ⟨r_35, S_36, hc_34, h⟩ := ob_2s h
    refine km_cVz (As := [.int (1 : Int32)]) (rest := []) C (kX5_bad hEE hc_34) (cwV 1 hts gX5_readWeigh_X5_bad rfl rfl rfl (by decide +kernel) ⟨(Nat.le_of_ble_eq_true rfl), (Nat.le_of_ble_eq_true rfl)⟩) mw_M rfl rfl rfl hP hD hS hl.1 rfl (Nat.le_of_ble_eq_true rfl) dX5_readWeigh_14 (fun H locs hP hD hS hz_37 => ?_)
    obtain ⟨rfl, rfl⟩ := ob_w h
    exact km_zret C hz_37 hP hD hS dX5_readWeigh_17
def fX5_readHome (S : RSt) : Option (Int32 × RSt) := (ob_in (1 : Int32) 58 (if (st_a S 2 (1 : Int32).toNatClampNeg) = (6 : Int32) then (ob_2 (fX5_bad (3 : Int32) S) fun r_13 S_14 => (some (r_13, S_14))) else (ob_1 (fX5_go S) fun S_5 => (ob_in (1 : Int32) 58 (ob_in (1 : Int32) 58 (ob_2 (fX5_readEnd (st_sa S_5 2 (1 : Int32).toNatClampNeg ((st_a S_5 2 (1 : Int32).toNatClampNeg) + (1 : Int32)))) fun r_9 S_10 => (some (r_9, S_10))))))))
abbrev rmX5_readHome : Room := { frames := 3, cells := 0, slots := 0, locals := 65 }
theorem nf_X5_readHome_f73 : Cond.fieldLink RX5 73 "RepeatIndexModel" "read" "[I" ∈ wsX5_readHome := by decide +kernel
theorem ni_X5_readHome_X5 : ∀ w ∈ u_ws RX5 TX5 31, w ∈ wsX5_readHome := by decide +kernel
set_option maxHeartbeats 4000000 in
set_option maxRecDepth 100000 in
theorem kX5_readHome {l : Launch} {D : va_G} {cy : Nat → ClassId} {ad : Nat → Nat} {E : ke_T} (hEE : km_E E) {S : RSt} {r : Int32} {S' : RSt} (h : fX5_readHome S = some (r, S')) : km_z l D (mw_t cy) (mw_w cy ad) E yX5_readHome wsX5_readHome rmX5_readHome [.ref (ad 0)] S r S' := by
  refine km_z_in (cc := cX5_readHome) (nL := 1) hEE (by decide) rfl (Nat.le_of_ble_eq_true rfl) ?_
  intro p e s m below meth c A H ls C hP hD hS hl
  have C : km_C p s m _ meth c cX5_readHome 1 RX5 wsX5_readHome (some .boolean) D (mw_t cy) E A := C
  obtain ⟨⟨hx, hb, hml, hown, hts⟩, hr, hlk, hK, hA, hE, hEE⟩ := id C
  have hl : lv_has ls 1 [(0, .ref (ad 0))] := hl
  unfold fX5_readHome at h
  refine lv_aload_n hx hb dX5_readHome_0 rfl (lv_at hl 0 rfl) ?_
  refine va_get (D := D) (ci := 5) (v := .ref (ad 3)) (C := RX5) (T := TX5) (N := 31) hx hb hts ni_X5_readHome_X5 hown hK hP 0 mw_M rfl 12 (by decide) (hts _ nf_X5_readHome_f73) (fun _ h9 => h9) rfl dX5_readHome_1 ?_
  refine lv_iconst (v := 1) hx hb dX5_readHome_4 (by decide) ?_
  obtain ⟨hv_1, h⟩ := ob_in_s h
  refine va_iald hx hb hK hP 3 0 mw_read rfl hv_1 dX5_readHome_5 ?_
  refine lv_bipush (v := 6) hx hb dX5_readHome_6 (by decide) ?_
  refine lv_icmp_ne (tgt := 17) hx hb dX5_readHome_8 (by decide) (fun c_2 => ?_) (fun c_2 => ?_)
  · have h := ob_f c_2 h
    refine lv_aload_n hx hb dX5_readHome_17 rfl (lv_at hl 0 rfl) ?_
    obtain ⟨S_5, hc_3, h⟩ := ob_1s h
    refine km_cVv (As := []) (rest := []) C (kX5_go hEE hc_3) (cwV 0 hts gX5_readHome_X5_go rfl rfl rfl (by decide +kernel) ⟨(Nat.le_of_ble_eq_true rfl), (Nat.le_of_ble_eq_true rfl)⟩) mw_M rfl rfl rfl hP hD hS hl.1 rfl (Nat.le_of_ble_eq_true rfl) dX5_readHome_18 (fun H locs hP hD hS => ?_)
    refine lv_aload_n hx hb dX5_readHome_21 rfl (lv_at hl 0 rfl) ?_
    refine va_get (D := D) (ci := 5) (v := .ref (ad 3)) (C := RX5) (T := TX5) (N := 31) hx hb hts ni_X5_readHome_X5 hown hK hP 0 mw_M rfl 12 (by decide) (hts _ nf_X5_readHome_f73) (fun _ h9 => h9) rfl dX5_readHome_22 ?_
    refine lv_iconst (v := 1) hx hb dX5_readHome_25 (by decide) ?_
    refine lv_dup2_11 hx hb dX5_readHome_26 rfl rfl ?_
    obtain ⟨hv_6, h⟩ := ob_in_s h
    refine va_iald hx hb hK hP 3 0 mw_read rfl hv_6 dX5_readHome_27 ?_
    refine lv_iconst (v := 1) hx hb dX5_readHome_28 (by decide) ?_
    refine lv_iadd hx hb dX5_readHome_29 ?_
    obtain ⟨hv_7, h⟩ := ob_in_s h
    refine va_iast hx hb hK hP hD hS 3 0 mw_read rfl hv_7 dX5_readHome_30 (fun H locs hP hD hS => ?_)
    have hP := st_ps mw_s_read hP
    have hD := st_ds mw_s_read hD
    refine lv_aload_n hx hb dX5_readHome_31 rfl (lv_at hl 0 rfl) ?_
    obtain ⟨r_9, S_10, hc_8, h⟩ := ob_2s h
    refine km_cVz (As := []) (rest := []) C (kX5_readEnd hEE hc_8) (cwV 0 hts gX5_readHome_X5_readEnd rfl rfl rfl (by decide +kernel) ⟨(Nat.le_of_ble_eq_true rfl), (Nat.le_of_ble_eq_true rfl)⟩) mw_M rfl rfl rfl hP hD hS hl.1 rfl (Nat.le_of_ble_eq_true rfl) dX5_readHome_32 (fun H locs hP hD hS hz_11 => ?_)
    obtain ⟨rfl, rfl⟩ := ob_w h
    exact km_zret C hz_11 hP hD hS dX5_readHome_35
  · have h := ob_t c_2 h
    refine lv_aload_n hx hb dX5_readHome_11 rfl (lv_at hl 0 rfl) ?_
    refine lv_iconst (v := 3) hx hb dX5_readHome_12 (by decide) ?_
    obtain ⟨r_13, S_14, hc_12, h⟩ := ob_2s h
    refine km_cVz (As := [.int (3 : Int32)]) (rest := []) C (kX5_bad hEE hc_12) (cwV 1 hts gX5_readHome_X5_bad rfl rfl rfl (by decide +kernel) ⟨(Nat.le_of_ble_eq_true rfl), (Nat.le_of_ble_eq_true rfl)⟩) mw_M rfl rfl rfl hP hD hS hl.1 rfl (Nat.le_of_ble_eq_true rfl) dX5_readHome_13 (fun H locs hP hD hS hz_15 => ?_)
    obtain ⟨rfl, rfl⟩ := ob_w h
    exact km_zret C hz_15 hP hD hS dX5_readHome_16
def fX5_readSale (S : RSt) : Option (Int32 × RSt) := (if (st_i S 11) = (18 : Int32) then (ob_2 (fX5_bad (3 : Int32) S) fun r_37 S_38 => (some (r_37, S_38))) else (ob_1 (fX5_go S) fun S_4 => (ob_in (1 : Int32) 58 (if (st_i S_4 5) = (3 : Int32) then (ob_in (0 : Int32) 58 (if (st_a S_4 2 (0 : Int32).toNatClampNeg) ≤ (st_i S_4 6) then (ob_2 (fX5_bad (2 : Int32) S_4) fun r_10 S_11 => (some (r_10, S_11))) else (ob_in (((10 : Int32) + ((8 : Int32) * ((st_a S_4 2 (1 : Int32).toNatClampNeg) - (1 : Int32)))) + (st_i S_4 6)) 58 (if (st_a S_4 2 (((10 : Int32) + ((8 : Int32) * ((st_a S_4 2 (1 : Int32).toNatClampNeg) - (1 : Int32)))) + (st_i S_4 6)).toNatClampNeg) ≤ 0 then (ob_1 (fX5_go S_4) fun S_17 => (ob_2 (fX5_takes (0 : Int32) (999 : Int32) S_17) fun r_19 S_20 => (if r_19 = 0 then (some ((0 : Int32), S_20)) else (ob_in (((10 : Int32) + ((8 : Int32) * ((st_a S_4 2 (1 : Int32).toNatClampNeg) - (1 : Int32)))) + (st_i S_4 6)) 58 (ob_2 (fX5_readEnd (st_si (st_sa S_20 2 (((10 : Int32) + ((8 : Int32) * ((st_a S_4 2 (1 : Int32).toNatClampNeg) - (1 : Int32)))) + (st_i S_4 6)).toNatClampNeg ((st_i S_20 10) + (1 : Int32))) 11 ((st_i (st_sa S_20 2 (((10 : Int32) + ((8 : Int32) * ((st_a S_4 2 (1 : Int32).toNatClampNeg) - (1 : Int32)))) + (st_i S_4 6)).toNatClampNeg ((st_i S_20 10) + (1 : Int32))) 11) + (1 : Int32)))) fun r_25 S_26 => (some (r_25, S_26))))))) else (ob_2 (fX5_bad (2 : Int32) S_4) fun r_29 S_30 => (some (r_29, S_30))))))) else (ob_2 (fX5_bad (1 : Int32) S_4) fun r_33 S_34 => (some (r_33, S_34)))))))
abbrev rmX5_readSale : Room := { frames := 3, cells := 0, slots := 0, locals := 67 }
theorem nf_X5_readSale_f139 : Cond.fieldLink RX5 139 "RepeatIndexModel" "sold" "I" ∈ wsX5_readSale := by decide +kernel
theorem ni_X5_readSale_X5 : ∀ w ∈ u_ws RX5 TX5 31, w ∈ wsX5_readSale := by decide +kernel
theorem nf_X5_readSale_f73 : Cond.fieldLink RX5 73 "RepeatIndexModel" "read" "[I" ∈ wsX5_readSale := by decide +kernel
theorem nf_X5_readSale_f27 : Cond.fieldLink RX5 27 "RepeatIndexModel" "sort" "I" ∈ wsX5_readSale := by decide +kernel
theorem nf_X5_readSale_f41 : Cond.fieldLink RX5 41 "RepeatIndexModel" "number" "I" ∈ wsX5_readSale := by decide +kernel
theorem nf_X5_readSale_f117 : Cond.fieldLink RX5 117 "RepeatIndexModel" "got" "I" ∈ wsX5_readSale := by decide +kernel
set_option maxHeartbeats 4000000 in
set_option maxRecDepth 100000 in
theorem kX5_readSale {l : Launch} {D : va_G} {cy : Nat → ClassId} {ad : Nat → Nat} {E : ke_T} (hEE : km_E E) {S : RSt} {r : Int32} {S' : RSt} (h : fX5_readSale S = some (r, S')) : km_z l D (mw_t cy) (mw_w cy ad) E yX5_readSale wsX5_readSale rmX5_readSale [.ref (ad 0)] S r S' := by
  refine km_z_in (cc := cX5_readSale) (nL := 2) hEE (by decide) rfl (Nat.le_of_ble_eq_true rfl) ?_
  intro p e s m below meth c A H ls C hP hD hS hl
  have C : km_C p s m _ meth c cX5_readSale 2 RX5 wsX5_readSale (some .boolean) D (mw_t cy) E A := C
  obtain ⟨⟨hx, hb, hml, hown, hts⟩, hr, hlk, hK, hA, hE, hEE⟩ := id C
  have hl : lv_has ls 2 [(0, .ref (ad 0))] := hl
  unfold fX5_readSale at h
  refine lv_aload_n hx hb dX5_readSale_0 rfl (lv_at hl 0 rfl) ?_
  refine va_get (D := D) (ci := 5) (v := .int (st_i S 11)) (C := RX5) (T := TX5) (N := 31) hx hb hts ni_X5_readSale_X5 hown hK hP 0 mw_M rfl 16 (by decide) (hts _ nf_X5_readSale_f139) (fun _ h9 => h9) rfl dX5_readSale_1 ?_
  refine lv_bipush (v := 18) hx hb dX5_readSale_4 (by decide) ?_
  refine lv_icmp_ne (tgt := 15) hx hb dX5_readSale_6 (by decide) (fun c_1 => ?_) (fun c_1 => ?_)
  · have h := ob_f c_1 h
    refine lv_aload_n hx hb dX5_readSale_15 rfl (lv_at hl 0 rfl) ?_
    obtain ⟨S_4, hc_2, h⟩ := ob_1s h
    refine km_cVv (As := []) (rest := []) C (kX5_go hEE hc_2) (cwV 0 hts gX5_readSale_X5_go rfl rfl rfl (by decide +kernel) ⟨(Nat.le_of_ble_eq_true rfl), (Nat.le_of_ble_eq_true rfl)⟩) mw_M rfl rfl rfl hP hD hS hl.1 rfl (Nat.le_of_ble_eq_true rfl) dX5_readSale_16 (fun H locs hP hD hS => ?_)
    refine lv_bipush (v := 10) hx hb dX5_readSale_19 (by decide) ?_
    refine lv_bipush (v := 8) hx hb dX5_readSale_21 (by decide) ?_
    refine lv_aload_n hx hb dX5_readSale_23 rfl (lv_at hl 0 rfl) ?_
    refine va_get (D := D) (ci := 5) (v := .ref (ad 3)) (C := RX5) (T := TX5) (N := 31) hx hb hts ni_X5_readSale_X5 hown hK hP 0 mw_M rfl 12 (by decide) (hts _ nf_X5_readSale_f73) (fun _ h9 => h9) rfl dX5_readSale_24 ?_
    refine lv_iconst (v := 1) hx hb dX5_readSale_27 (by decide) ?_
    obtain ⟨hv_5, h⟩ := ob_in_s h
    refine va_iald hx hb hK hP 3 0 mw_read rfl hv_5 dX5_readSale_28 ?_
    refine lv_iconst (v := 1) hx hb dX5_readSale_29 (by decide) ?_
    refine lv_isub hx hb dX5_readSale_30 ?_
    refine lv_imul hx hb dX5_readSale_31 ?_
    refine lv_iadd hx hb dX5_readSale_32 ?_
    refine lv_istore_n (lv' := [(1, .int ((10 : Int32) + ((8 : Int32) * ((st_a S_4 2 (1 : Int32).toNatClampNeg) - (1 : Int32))))), (0, .ref (ad 0))]) hx hb dX5_readSale_33 rfl hl (by decide) rfl (fun ls hl => ?_)
    refine lv_aload_n hx hb dX5_readSale_34 rfl (lv_at hl 1 rfl) ?_
    refine va_get (D := D) (ci := 5) (v := .int (st_i S_4 5)) (C := RX5) (T := TX5) (N := 31) hx hb hts ni_X5_readSale_X5 hown hK hP 0 mw_M rfl 6 (by decide) (hts _ nf_X5_readSale_f27) (fun _ h9 => h9) rfl dX5_readSale_35 ?_
    refine lv_iconst (v := 3) hx hb dX5_readSale_38 (by decide) ?_
    refine lv_icmp_eq (tgt := 48) hx hb dX5_readSale_39 (by decide) (fun c_6 => ?_) (fun c_6 => ?_)
    · have h := ob_t c_6 h
      refine lv_aload_n hx hb dX5_readSale_48 rfl (lv_at hl 1 rfl) ?_
      refine va_get (D := D) (ci := 5) (v := .int (st_i S_4 6)) (C := RX5) (T := TX5) (N := 31) hx hb hts ni_X5_readSale_X5 hown hK hP 0 mw_M rfl 7 (by decide) (hts _ nf_X5_readSale_f41) (fun _ h9 => h9) rfl dX5_readSale_49 ?_
      refine lv_aload_n hx hb dX5_readSale_52 rfl (lv_at hl 1 rfl) ?_
      refine va_get (D := D) (ci := 5) (v := .ref (ad 3)) (C := RX5) (T := TX5) (N := 31) hx hb hts ni_X5_readSale_X5 hown hK hP 0 mw_M rfl 12 (by decide) (hts _ nf_X5_readSale_f73) (fun _ h9 => h9) rfl dX5_readSale_53 ?_
      refine lv_iconst (v := 0) hx hb dX5_readSale_56 (by decide) ?_
      obtain ⟨hv_7, h⟩ := ob_in_s h
      refine va_iald hx hb hK hP 3 0 mw_read rfl hv_7 dX5_readSale_57 ?_
      refine lv_icmp_ge (tgt := 75) hx hb dX5_readSale_58 (by decide) (fun c_8 => ?_) (fun c_8 => ?_)
      · have h := ob_t c_8 h
        refine lv_aload_n hx hb dX5_readSale_75 rfl (lv_at hl 1 rfl) ?_
        refine lv_iconst (v := 2) hx hb dX5_readSale_76 (by decide) ?_
        obtain ⟨r_10, S_11, hc_9, h⟩ := ob_2s h
        refine km_cVz (As := [.int (2 : Int32)]) (rest := []) C (kX5_bad hEE hc_9) (cwV 1 hts gX5_readSale_X5_bad rfl rfl rfl (by decide +kernel) ⟨(Nat.le_of_ble_eq_true rfl), (Nat.le_of_ble_eq_true rfl)⟩) mw_M rfl rfl rfl hP hD hS hl.1 rfl (Nat.le_of_ble_eq_true rfl) dX5_readSale_77 (fun H locs hP hD hS hz_12 => ?_)
        obtain ⟨rfl, rfl⟩ := ob_w h
        exact km_zret C hz_12 hP hD hS dX5_readSale_80
      · have h := ob_f c_8 h
        refine lv_aload_n hx hb dX5_readSale_61 rfl (lv_at hl 1 rfl) ?_
        refine va_get (D := D) (ci := 5) (v := .ref (ad 3)) (C := RX5) (T := TX5) (N := 31) hx hb hts ni_X5_readSale_X5 hown hK hP 0 mw_M rfl 12 (by decide) (hts _ nf_X5_readSale_f73) (fun _ h9 => h9) rfl dX5_readSale_62 ?_
        refine lv_iload_n hx hb dX5_readSale_65 rfl (lv_at hl 0 rfl) ?_
        refine lv_aload_n hx hb dX5_readSale_66 rfl (lv_at hl 1 rfl) ?_
        refine va_get (D := D) (ci := 5) (v := .int (st_i S_4 6)) (C := RX5) (T := TX5) (N := 31) hx hb hts ni_X5_readSale_X5 hown hK hP 0 mw_M rfl 7 (by decide) (hts _ nf_X5_readSale_f41) (fun _ h9 => h9) rfl dX5_readSale_67 ?_
        refine lv_iadd hx hb dX5_readSale_70 ?_
        obtain ⟨hv_13, h⟩ := ob_in_s h
        refine va_iald hx hb hK hP 3 0 mw_read rfl hv_13 dX5_readSale_71 ?_
        refine lv_if_le (tgt := 81) hx hb dX5_readSale_72 (by decide) (fun c_14 => ?_) (fun c_14 => ?_)
        · have h := ob_t c_14 h
          refine lv_iload_n hx hb dX5_readSale_81 rfl (lv_at hl 0 rfl) ?_
          refine lv_aload_n hx hb dX5_readSale_82 rfl (lv_at hl 1 rfl) ?_
          refine va_get (D := D) (ci := 5) (v := .int (st_i S_4 6)) (C := RX5) (T := TX5) (N := 31) hx hb hts ni_X5_readSale_X5 hown hK hP 0 mw_M rfl 7 (by decide) (hts _ nf_X5_readSale_f41) (fun _ h9 => h9) rfl dX5_readSale_83 ?_
          refine lv_iadd hx hb dX5_readSale_86 ?_
          refine lv_istore_n (lv' := [(1, .int (((10 : Int32) + ((8 : Int32) * ((st_a S_4 2 (1 : Int32).toNatClampNeg) - (1 : Int32)))) + (st_i S_4 6))), (0, .ref (ad 0))]) hx hb dX5_readSale_87 rfl hl (by decide) rfl (fun ls hl => ?_)
          refine lv_aload_n hx hb dX5_readSale_88 rfl (lv_at hl 1 rfl) ?_
          obtain ⟨S_17, hc_15, h⟩ := ob_1s h
          refine km_cVv (As := []) (rest := []) C (kX5_go hEE hc_15) (cwV 0 hts gX5_readSale_X5_go rfl rfl rfl (by decide +kernel) ⟨(Nat.le_of_ble_eq_true rfl), (Nat.le_of_ble_eq_true rfl)⟩) mw_M rfl rfl rfl hP hD hS hl.1 rfl (Nat.le_of_ble_eq_true rfl) dX5_readSale_89 (fun H locs hP hD hS => ?_)
          refine lv_aload_n hx hb dX5_readSale_92 rfl (lv_at hl 1 rfl) ?_
          refine lv_iconst (v := 0) hx hb dX5_readSale_93 (by decide) ?_
          refine lv_sipush (v := 999) hx hb dX5_readSale_94 (by decide) ?_
          obtain ⟨r_19, S_20, hc_18, h⟩ := ob_2s h
          refine km_cVz (As := [.int (0 : Int32), .int (999 : Int32)]) (rest := []) C (kX5_takes hEE hc_18) (cwV 2 hts gX5_readSale_X5_takes rfl rfl rfl (by decide +kernel) ⟨(Nat.le_of_ble_eq_true rfl), (Nat.le_of_ble_eq_true rfl)⟩) mw_M rfl rfl rfl hP hD hS hl.1 rfl (Nat.le_of_ble_eq_true rfl) dX5_readSale_97 (fun H locs hP hD hS hz_21 => ?_)
          refine lv_if_ne (tgt := 105) hx hb dX5_readSale_100 (by decide) (fun c_22 => ?_) (fun c_22 => ?_)
          · have h := ob_f c_22 h
            refine lv_aload_n hx hb dX5_readSale_105 rfl (lv_at hl 1 rfl) ?_
            refine va_get (D := D) (ci := 5) (v := .ref (ad 3)) (C := RX5) (T := TX5) (N := 31) hx hb hts ni_X5_readSale_X5 hown hK hP 0 mw_M rfl 12 (by decide) (hts _ nf_X5_readSale_f73) (fun _ h9 => h9) rfl dX5_readSale_106 ?_
            refine lv_iload_n hx hb dX5_readSale_109 rfl (lv_at hl 0 rfl) ?_
            refine lv_aload_n hx hb dX5_readSale_110 rfl (lv_at hl 1 rfl) ?_
            refine va_get (D := D) (ci := 5) (v := .int (st_i S_20 10)) (C := RX5) (T := TX5) (N := 31) hx hb hts ni_X5_readSale_X5 hown hK hP 0 mw_M rfl 15 (by decide) (hts _ nf_X5_readSale_f117) (fun _ h9 => h9) rfl dX5_readSale_111 ?_
            refine lv_iconst (v := 1) hx hb dX5_readSale_114 (by decide) ?_
            refine lv_iadd hx hb dX5_readSale_115 ?_
            obtain ⟨hv_23, h⟩ := ob_in_s h
            refine va_iast hx hb hK hP hD hS 3 0 mw_read rfl hv_23 dX5_readSale_116 (fun H locs hP hD hS => ?_)
            have hP := st_ps mw_s_read hP
            have hD := st_ds mw_s_read hD
            refine lv_aload_n hx hb dX5_readSale_117 rfl (lv_at hl 1 rfl) ?_
            refine lv_dup hx hb dX5_readSale_118 rfl ?_
            refine va_get (D := D) (ci := 5) (v := .int (st_i (st_sa S_20 2 (((10 : Int32) + ((8 : Int32) * ((st_a S_4 2 (1 : Int32).toNatClampNeg) - (1 : Int32)))) + (st_i S_4 6)).toNatClampNeg ((st_i S_20 10) + (1 : Int32))) 11)) (C := RX5) (T := TX5) (N := 31) hx hb hts ni_X5_readSale_X5 hown hK hP 0 mw_M rfl 16 (by decide) (hts _ nf_X5_readSale_f139) (fun _ h9 => h9) rfl dX5_readSale_119 ?_
            refine lv_iconst (v := 1) hx hb dX5_readSale_122 (by decide) ?_
            refine lv_iadd hx hb dX5_readSale_123 ?_
            refine va_put (D := D) (ci := 5) (v := .int ((st_i (st_sa S_20 2 (((10 : Int32) + ((8 : Int32) * ((st_a S_4 2 (1 : Int32).toNatClampNeg) - (1 : Int32)))) + (st_i S_4 6)).toNatClampNeg ((st_i S_20 10) + (1 : Int32))) 11) + (1 : Int32))) (ty := .int) (C := RX5) (T := TX5) (N := 31) hx hb hts ni_X5_readSale_X5 tyX5 tyX5_ok nmX5 hown hK hP hD hS 0 mw_M rfl 16 (by decide) (hts _ nf_X5_readSale_f139) (fun _ h9 => h9) rfl (by decide +kernel) rfl rfl (Nat.le_of_ble_eq_true rfl) dX5_readSale_124 (fun H locs hP hD hS => ?_)
            have hP := st_ps mw_s_sold hP
            have hD := st_ds mw_s_sold hD
            refine lv_aload_n hx hb dX5_readSale_127 rfl (lv_at hl 1 rfl) ?_
            obtain ⟨r_25, S_26, hc_24, h⟩ := ob_2s h
            refine km_cVz (As := []) (rest := []) C (kX5_readEnd hEE hc_24) (cwV 0 hts gX5_readSale_X5_readEnd rfl rfl rfl (by decide +kernel) ⟨(Nat.le_of_ble_eq_true rfl), (Nat.le_of_ble_eq_true rfl)⟩) mw_M rfl rfl rfl hP hD hS hl.1 rfl (Nat.le_of_ble_eq_true rfl) dX5_readSale_128 (fun H locs hP hD hS hz_27 => ?_)
            obtain ⟨rfl, rfl⟩ := ob_w h
            exact km_zret C hz_27 hP hD hS dX5_readSale_131
          · have h := ob_t c_22 h
            refine lv_iconst (v := 0) hx hb dX5_readSale_103 (by decide) ?_
            obtain ⟨rfl, rfl⟩ := ob_w h
            exact km_zret C (by decide) hP hD hS dX5_readSale_104
        · have h := ob_f c_14 h
          refine lv_aload_n hx hb dX5_readSale_75 rfl (lv_at hl 1 rfl) ?_
          refine lv_iconst (v := 2) hx hb dX5_readSale_76 (by decide) ?_
          obtain ⟨r_29, S_30, hc_28, h⟩ := ob_2s h
          refine km_cVz (As := [.int (2 : Int32)]) (rest := []) C (kX5_bad hEE hc_28) (cwV 1 hts gX5_readSale_X5_bad rfl rfl rfl (by decide +kernel) ⟨(Nat.le_of_ble_eq_true rfl), (Nat.le_of_ble_eq_true rfl)⟩) mw_M rfl rfl rfl hP hD hS hl.1 rfl (Nat.le_of_ble_eq_true rfl) dX5_readSale_77 (fun H locs hP hD hS hz_31 => ?_)
          obtain ⟨rfl, rfl⟩ := ob_w h
          exact km_zret C hz_31 hP hD hS dX5_readSale_80
    · have h := ob_f c_6 h
      refine lv_aload_n hx hb dX5_readSale_42 rfl (lv_at hl 1 rfl) ?_
      refine lv_iconst (v := 1) hx hb dX5_readSale_43 (by decide) ?_
      obtain ⟨r_33, S_34, hc_32, h⟩ := ob_2s h
      refine km_cVz (As := [.int (1 : Int32)]) (rest := []) C (kX5_bad hEE hc_32) (cwV 1 hts gX5_readSale_X5_bad rfl rfl rfl (by decide +kernel) ⟨(Nat.le_of_ble_eq_true rfl), (Nat.le_of_ble_eq_true rfl)⟩) mw_M rfl rfl rfl hP hD hS hl.1 rfl (Nat.le_of_ble_eq_true rfl) dX5_readSale_44 (fun H locs hP hD hS hz_35 => ?_)
      obtain ⟨rfl, rfl⟩ := ob_w h
      exact km_zret C hz_35 hP hD hS dX5_readSale_47
  · have h := ob_t c_1 h
    refine lv_aload_n hx hb dX5_readSale_9 rfl (lv_at hl 0 rfl) ?_
    refine lv_iconst (v := 3) hx hb dX5_readSale_10 (by decide) ?_
    obtain ⟨r_37, S_38, hc_36, h⟩ := ob_2s h
    refine km_cVz (As := [.int (3 : Int32)]) (rest := []) C (kX5_bad hEE hc_36) (cwV 1 hts gX5_readSale_X5_bad rfl rfl rfl (by decide +kernel) ⟨(Nat.le_of_ble_eq_true rfl), (Nat.le_of_ble_eq_true rfl)⟩) mw_M rfl rfl rfl hP hD hS hl.1 rfl (Nat.le_of_ble_eq_true rfl) dX5_readSale_11 (fun H locs hP hD hS hz_39 => ?_)
    obtain ⟨rfl, rfl⟩ := ob_w h
    exact km_zret C hz_39 hP hD hS dX5_readSale_14
def fX5_readWhole_L19 : Nat → RSt → Option ((RSt) ⊕ ((RSt)))
  | 0, _ => none
  | n + 1, S => (ob_2 (fX5_four (119 : Int32) (101 : Int32) (105 : Int32) (103 : Int32) S) fun r_7 S_8 => (ob_2 (fX5_isWord (((27 : Int64) * r_7) + (8 : Int64)) S_8) fun r_10 S_11 => (if r_10 = 0 then (some (.inr S_11)) else (ob_2 (fX5_readWeigh S_11) fun r_15 S_16 => (if r_15 = 0 then (some (.inl S_16)) else (fX5_readWhole_L19 n  (st_si S_16 12 ((st_i S_16 12) + (1 : Int32)))))))))
def fX5_readWhole_L67 : Nat → RSt → Option ((RSt) ⊕ ((RSt) ⊕ ((RSt))))
  | 0, _ => none
  | n + 1, S => (if (st_i S 5) = 0 then (some (.inr (.inr S))) else (ob_2 (fX5_four (104 : Int32) (111 : Int32) (109 : Int32) (101 : Int32) S) fun r_28 S_29 => (ob_2 (fX5_isWord r_28 S_29) fun r_31 S_32 => (ob_j (fun (S_35 : RSt) => (ob_j (fun (S_37 : RSt) => (fX5_readWhole_L67 n  (st_si S_37 12 ((st_i S_37 12) + (1 : Int32))))) fun tJ_36 => (if r_31 = 0 then (ob_2 (fX5_readSale S_35) fun r_41 S_42 => (if r_41 = 0 then (some (.inr (.inl S_42))) else (tJ_36 S_42))) else (ob_2 (fX5_readHome S_35) fun r_46 S_47 => (if r_46 = 0 then (some (.inr (.inl S_47))) else (tJ_36 S_47)))))) fun tJ_34 => (if r_31 = 0 then (ob_in (1 : Int32) 58 (if (st_a S_32 2 (1 : Int32).toNatClampNeg) = 0 then (some (.inl S_32)) else (ob_2 (fX5_four (115 : Int32) (97 : Int32) (108 : Int32) (101 : Int32) S_32) fun r_55 S_56 => (ob_2 (fX5_isWord r_55 S_56) fun r_58 S_59 => (if r_58 = 0 then (some (.inl S_59)) else (tJ_34 S_59)))))) else (tJ_34 S_32))))))
def fX5_readWhole (S : RSt) : Option (Int32 × RSt) := (ob_2 (fX5_readMonths S) fun r_2 S_3 => (if r_2 = 0 then (some ((0 : Int32), S_3)) else (ob_1 (fX5_readWhole_L19 1000  (st_si S_3 12 ((st_i S_3 12) + (1 : Int32)))) fun Z_21 => ob_s2 Z_21 (fun S_22 => (some ((0 : Int32), S_22))) (fun S_24 => (ob_1 (fX5_readWhole_L67 1000  S_24) fun Z_64 => ob_s3 Z_64 (fun S_65 => (ob_2 (fX5_bad (1 : Int32) S_65) fun r_68 S_69 => (some (r_68, S_69)))) (fun S_71 => (some ((0 : Int32), S_71))) (fun S_73 => (some ((1 : Int32), S_73))))))))
abbrev rmX5_readWhole : Room := { frames := 4, cells := 0, slots := 0, locals := 88 }
theorem nf_X5_readWhole_f145 : Cond.fieldLink RX5 145 "RepeatIndexModel" "lines" "I" ∈ wsX5_readWhole := by decide +kernel
theorem ni_X5_readWhole_X5 : ∀ w ∈ u_ws RX5 TX5 31, w ∈ wsX5_readWhole := by decide +kernel
theorem nf_X5_readWhole_c48 : Cond.constantLong RX5 48 (27) ∈ wsX5_readWhole := by decide +kernel
theorem nf_X5_readWhole_c148 : Cond.constantLong RX5 148 (8) ∈ wsX5_readWhole := by decide +kernel
theorem nf_X5_readWhole_f27 : Cond.fieldLink RX5 27 "RepeatIndexModel" "sort" "I" ∈ wsX5_readWhole := by decide +kernel
theorem nf_X5_readWhole_f73 : Cond.fieldLink RX5 73 "RepeatIndexModel" "read" "[I" ∈ wsX5_readWhole := by decide +kernel
set_option maxHeartbeats 4000000 in
set_option maxRecDepth 100000 in
theorem kX5_readWhole_L19 {l : Launch} {D : va_G} {cy : Nat → ClassId} {ad : Nat → Nat} {E : ke_T} {p : Program} {e : Env} {s : State} {m : MethodId} {args : Array Value} {below : List Frame} {meth : Method} {c : Code} {A : Nat → Prop} {Q : State → Prop} (C : km_C p s m args meth c cX5_readWhole 2 RX5 wsX5_readWhole (some .boolean) D (mw_t cy) E A) : ∀ (n : Nat) (S : RSt) (Z : (RSt) ⊕ ((RSt))) (h : fX5_readWhole_L19 n  S = some Z) {H : Heap} {locs : List Loc} {ls : Array Slot} (hP : va_P D vwCl ((mw_w cy ad) S) H) (hD : va_D A ((mw_w cy ad) S)) (hS : va_S A s.heap H locs) (hl : lv_has ls 2 [(0, .ref (ad 0))]) (kx0 : ∀ (S' : RSt), Z = .inl S' → ∀ (H : Heap) (locs : List Loc) (ls : Array Slot), va_P D vwCl ((mw_w cy ad) S') H → va_D A ((mw_w cy ad) S') → va_S A s.heap H locs → lv_has ls 2 [] → W p l e rmX5_readWhole s m args below meth c H locs 0 0 Q (F0 m 52 ls [])) (kx1 : ∀ (S' : RSt), Z = .inr S' → ∀ (H : Heap) (locs : List Loc) (ls : Array Slot), va_P D vwCl ((mw_w cy ad) S') H → va_D A ((mw_w cy ad) S') → va_S A s.heap H locs → lv_has ls 2 [(0, .ref (ad 0))] → W p l e rmX5_readWhole s m args below meth c H locs 0 0 Q (F0 m 67 ls [])), W p l e rmX5_readWhole s m args below meth c H locs 0 0 Q (F0 m 19 ls []) := by
  obtain ⟨⟨hx, hb, hml, hown, hts⟩, hr, hlk, hK, hA, hE, hEE⟩ := id C
  intro n
  induction n with
  | zero =>
    intro  S Z h
    rw [fX5_readWhole_L19] at h
    cases h
  | succ n ih =>
    intro  S Z h H locs ls hP hD hS hl kx0 kx1
    rw [fX5_readWhole_L19] at h
    refine lv_aload_n hx hb dX5_readWhole_19 rfl (lv_at hl 0 rfl) ?_
    refine lv_ldc2 (v := 27) hx hb hown (hts _ nf_X5_readWhole_c48) dX5_readWhole_20 ?_
    refine lv_bipush (v := 119) hx hb dX5_readWhole_23 (by decide) ?_
    refine lv_bipush (v := 101) hx hb dX5_readWhole_25 (by decide) ?_
    refine lv_bipush (v := 105) hx hb dX5_readWhole_27 (by decide) ?_
    refine lv_bipush (v := 103) hx hb dX5_readWhole_29 (by decide) ?_
    obtain ⟨r_7, S_8, hc_6, h⟩ := ob_2s h
    refine km_cSl (As := [.int (119 : Int32), .int (101 : Int32), .int (105 : Int32), .int (103 : Int32)]) (rest := [.long (27 : Int64), .ref (ad 0)]) C (kX5_four hEE hc_6) (va_cwS 4 hts gX5_readWhole_X5_four rfl rfl rfl (by decide +kernel) ⟨(Nat.le_of_ble_eq_true rfl), (Nat.le_of_ble_eq_true rfl)⟩) rfl hP hD hS hl.1 rfl (Nat.le_of_ble_eq_true rfl) dX5_readWhole_31 (fun H locs hP hD hS => ?_)
    refine lv_lmul hx hb dX5_readWhole_34 ?_
    refine lv_ldc2 (v := 8) hx hb hown (hts _ nf_X5_readWhole_c148) dX5_readWhole_35 ?_
    refine lv_ladd hx hb dX5_readWhole_38 ?_
    obtain ⟨r_10, S_11, hc_9, h⟩ := ob_2s h
    refine km_cVz (As := [.long (((27 : Int64) * r_7) + (8 : Int64))]) (rest := []) C (kX5_isWord hEE hc_9) (cwV 1 hts gX5_readWhole_X5_isWord rfl rfl rfl (by decide +kernel) ⟨(Nat.le_of_ble_eq_true rfl), (Nat.le_of_ble_eq_true rfl)⟩) mw_M rfl rfl rfl hP hD hS hl.1 rfl (Nat.le_of_ble_eq_true rfl) dX5_readWhole_39 (fun H locs hP hD hS hz_12 => ?_)
    refine lv_if_eq (tgt := 67) hx hb dX5_readWhole_42 (by decide) (fun c_13 => ?_) (fun c_13 => ?_)
    · have h := ob_t c_13 h
      exact kx1 _ (ob_v h).symm _ _ _ hP hD hS (lv_sub hl [0] rfl)
    · have h := ob_f c_13 h
      refine lv_aload_n hx hb dX5_readWhole_45 rfl (lv_at hl 0 rfl) ?_
      obtain ⟨r_15, S_16, hc_14, h⟩ := ob_2s h
      refine km_cVz (As := []) (rest := []) C (kX5_readWeigh hEE hc_14) (cwV 0 hts gX5_readWhole_X5_readWeigh rfl rfl rfl (by decide +kernel) ⟨(Nat.le_of_ble_eq_true rfl), (Nat.le_of_ble_eq_true rfl)⟩) mw_M rfl rfl rfl hP hD hS hl.1 rfl (Nat.le_of_ble_eq_true rfl) dX5_readWhole_46 (fun H locs hP hD hS hz_17 => ?_)
      refine lv_if_ne (tgt := 54) hx hb dX5_readWhole_49 (by decide) (fun c_18 => ?_) (fun c_18 => ?_)
      · have h := ob_f c_18 h
        refine lv_aload_n hx hb dX5_readWhole_54 rfl (lv_at hl 0 rfl) ?_
        refine lv_dup hx hb dX5_readWhole_55 rfl ?_
        refine va_get (D := D) (ci := 5) (v := .int (st_i S_16 12)) (C := RX5) (T := TX5) (N := 31) hx hb hts ni_X5_readWhole_X5 hown hK hP 0 mw_M rfl 17 (by decide) (hts _ nf_X5_readWhole_f145) (fun _ h9 => h9) rfl dX5_readWhole_56 ?_
        refine lv_iconst (v := 1) hx hb dX5_readWhole_59 (by decide) ?_
        refine lv_iadd hx hb dX5_readWhole_60 ?_
        refine va_put (D := D) (ci := 5) (v := .int ((st_i S_16 12) + (1 : Int32))) (ty := .int) (C := RX5) (T := TX5) (N := 31) hx hb hts ni_X5_readWhole_X5 tyX5 tyX5_ok nmX5 hown hK hP hD hS 0 mw_M rfl 17 (by decide) (hts _ nf_X5_readWhole_f145) (fun _ h9 => h9) rfl (by decide +kernel) rfl rfl (Nat.le_of_ble_eq_true rfl) dX5_readWhole_61 (fun H locs hP hD hS => ?_)
        have hP := st_ps mw_s_lines hP
        have hD := st_ds mw_s_lines hD
        refine lv_goto (tgt := 19) hx hb dX5_readWhole_64 (by decide) ?_
        exact ih  _ _ h hP hD hS (lv_sub hl [0] rfl) kx0 kx1
      · have h := ob_t c_18 h
        exact kx0 _ (ob_v h).symm _ _ _ hP hD hS (lv_sub hl [] rfl)
set_option maxHeartbeats 4000000 in
set_option maxRecDepth 100000 in
theorem kX5_readWhole_L67 {l : Launch} {D : va_G} {cy : Nat → ClassId} {ad : Nat → Nat} {E : ke_T} {p : Program} {e : Env} {s : State} {m : MethodId} {args : Array Value} {below : List Frame} {meth : Method} {c : Code} {A : Nat → Prop} {Q : State → Prop} (C : km_C p s m args meth c cX5_readWhole 2 RX5 wsX5_readWhole (some .boolean) D (mw_t cy) E A) : ∀ (n : Nat) (S : RSt) (Z : (RSt) ⊕ ((RSt) ⊕ ((RSt)))) (h : fX5_readWhole_L67 n  S = some Z) {H : Heap} {locs : List Loc} {ls : Array Slot} (hP : va_P D vwCl ((mw_w cy ad) S) H) (hD : va_D A ((mw_w cy ad) S)) (hS : va_S A s.heap H locs) (hl : lv_has ls 2 [(0, .ref (ad 0))]) (kx0 : ∀ (S' : RSt), Z = .inl S' → ∀ (H : Heap) (locs : List Loc) (ls : Array Slot), va_P D vwCl ((mw_w cy ad) S') H → va_D A ((mw_w cy ad) S') → va_S A s.heap H locs → lv_has ls 2 [(0, .ref (ad 0))] → W p l e rmX5_readWhole s m args below meth c H locs 0 0 Q (F0 m 121 ls [])) (kx1 : ∀ (S' : RSt), Z = .inr (.inl S') → ∀ (H : Heap) (locs : List Loc) (ls : Array Slot), va_P D vwCl ((mw_w cy ad) S') H → va_D A ((mw_w cy ad) S') → va_S A s.heap H locs → lv_has ls 2 [] → W p l e rmX5_readWhole s m args below meth c H locs 0 0 Q (F0 m 148 ls [])) (kx2 : ∀ (S' : RSt), Z = .inr (.inr S') → ∀ (H : Heap) (locs : List Loc) (ls : Array Slot), va_P D vwCl ((mw_w cy ad) S') H → va_D A ((mw_w cy ad) S') → va_S A s.heap H locs → lv_has ls 2 [] → W p l e rmX5_readWhole s m args below meth c H locs 0 0 Q (F0 m 163 ls [])), W p l e rmX5_readWhole s m args below meth c H locs 0 0 Q (F0 m 67 ls []) := by
  obtain ⟨⟨hx, hb, hml, hown, hts⟩, hr, hlk, hK, hA, hE, hEE⟩ := id C
  intro n
  induction n with
  | zero =>
    intro  S Z h
    rw [fX5_readWhole_L67] at h
    cases h
  | succ n ih =>
    intro  S Z h H locs ls hP hD hS hl kx0 kx1 kx2
    rw [fX5_readWhole_L67] at h
    refine lv_aload_n hx hb dX5_readWhole_67 rfl (lv_at hl 0 rfl) ?_
    refine va_get (D := D) (ci := 5) (v := .int (st_i S 5)) (C := RX5) (T := TX5) (N := 31) hx hb hts ni_X5_readWhole_X5 hown hK hP 0 mw_M rfl 6 (by decide) (hts _ nf_X5_readWhole_f27) (fun _ h9 => h9) rfl dX5_readWhole_68 ?_
    refine lv_if_eq (tgt := 163) hx hb dX5_readWhole_71 (by decide) (fun c_26 => ?_) (fun c_26 => ?_)
    · have h := ob_t c_26 h
      exact kx2 _ (ob_v h).symm _ _ _ hP hD hS (lv_sub hl [] rfl)
    · have h := ob_f c_26 h
      refine lv_aload_n hx hb dX5_readWhole_74 rfl (lv_at hl 0 rfl) ?_
      refine lv_bipush (v := 104) hx hb dX5_readWhole_75 (by decide) ?_
      refine lv_bipush (v := 111) hx hb dX5_readWhole_77 (by decide) ?_
      refine lv_bipush (v := 109) hx hb dX5_readWhole_79 (by decide) ?_
      refine lv_bipush (v := 101) hx hb dX5_readWhole_81 (by decide) ?_
      obtain ⟨r_28, S_29, hc_27, h⟩ := ob_2s h
      refine km_cSl (As := [.int (104 : Int32), .int (111 : Int32), .int (109 : Int32), .int (101 : Int32)]) (rest := [.ref (ad 0)]) C (kX5_four hEE hc_27) (va_cwS 4 hts gX5_readWhole_X5_four rfl rfl rfl (by decide +kernel) ⟨(Nat.le_of_ble_eq_true rfl), (Nat.le_of_ble_eq_true rfl)⟩) rfl hP hD hS hl.1 rfl (Nat.le_of_ble_eq_true rfl) dX5_readWhole_83 (fun H locs hP hD hS => ?_)
      obtain ⟨r_31, S_32, hc_30, h⟩ := ob_2s h
      refine km_cVz (As := [.long r_28]) (rest := []) C (kX5_isWord hEE hc_30) (cwV 1 hts gX5_readWhole_X5_isWord rfl rfl rfl (by decide +kernel) ⟨(Nat.le_of_ble_eq_true rfl), (Nat.le_of_ble_eq_true rfl)⟩) mw_M rfl rfl rfl hP hD hS hl.1 rfl (Nat.le_of_ble_eq_true rfl) dX5_readWhole_86 (fun H locs hP hD hS hz_33 => ?_)
      refine lv_istore_n (lv' := [(1, .int r_31), (0, .ref (ad 0))]) hx hb dX5_readWhole_89 rfl hl (by decide) rfl (fun ls hl => ?_)
      refine lv_iload_n hx hb dX5_readWhole_90 rfl (lv_at hl 0 rfl) ?_
      obtain ⟨tJ_34, hT_50, h⟩ := ob_js h
      have kJ_34 : ∀ (S_35 : RSt) (_ : tJ_34 S_35 = some Z) (H : Heap) (locs : List Loc) (ls : Array Slot), va_P D vwCl ((mw_w cy ad) S_35) H → va_D A ((mw_w cy ad) S_35) → va_S A s.heap H locs → lv_has ls 2 [(0, .ref (ad 0)), (1, .int r_31)] → W p l e rmX5_readWhole s m args below meth c H locs 0 0 Q (F0 m 127 ls []) := by
        intro S_35 h H locs ls hP hD hS hl
        rw [← hT_50] at h
        refine lv_iload_n hx hb dX5_readWhole_127 rfl (lv_at hl 1 rfl) ?_
        obtain ⟨tJ_36, hT_38, h⟩ := ob_js h
        have kJ_36 : ∀ (S_37 : RSt) (_ : tJ_36 S_37 = some Z) (H : Heap) (locs : List Loc) (ls : Array Slot), va_P D vwCl ((mw_w cy ad) S_37) H → va_D A ((mw_w cy ad) S_37) → va_S A s.heap H locs → lv_has ls 2 [(0, .ref (ad 0))] → W p l e rmX5_readWhole s m args below meth c H locs 0 0 Q (F0 m 150 ls []) := by
          intro S_37 h H locs ls hP hD hS hl
          rw [← hT_38] at h
          refine lv_aload_n hx hb dX5_readWhole_150 rfl (lv_at hl 0 rfl) ?_
          refine lv_dup hx hb dX5_readWhole_151 rfl ?_
          refine va_get (D := D) (ci := 5) (v := .int (st_i S_37 12)) (C := RX5) (T := TX5) (N := 31) hx hb hts ni_X5_readWhole_X5 hown hK hP 0 mw_M rfl 17 (by decide) (hts _ nf_X5_readWhole_f145) (fun _ h9 => h9) rfl dX5_readWhole_152 ?_
          refine lv_iconst (v := 1) hx hb dX5_readWhole_155 (by decide) ?_
          refine lv_iadd hx hb dX5_readWhole_156 ?_
          refine va_put (D := D) (ci := 5) (v := .int ((st_i S_37 12) + (1 : Int32))) (ty := .int) (C := RX5) (T := TX5) (N := 31) hx hb hts ni_X5_readWhole_X5 tyX5 tyX5_ok nmX5 hown hK hP hD hS 0 mw_M rfl 17 (by decide) (hts _ nf_X5_readWhole_f145) (fun _ h9 => h9) rfl (by decide +kernel) rfl rfl (Nat.le_of_ble_eq_true rfl) dX5_readWhole_157 (fun H locs hP hD hS => ?_)
          have hP := st_ps mw_s_lines hP
          have hD := st_ds mw_s_lines hD
          refine lv_goto (tgt := 67) hx hb dX5_readWhole_160 (by decide) ?_
          exact ih  _ _ h hP hD hS (lv_sub hl [0] rfl) kx0 kx1 kx2
        refine lv_if_eq (tgt := 141) hx hb dX5_readWhole_128 (by decide) (fun c_39 => ?_) (fun c_39 => ?_)
        · have h := ob_t c_39 h
          refine lv_aload_n hx hb dX5_readWhole_141 rfl (lv_at hl 0 rfl) ?_
          obtain ⟨r_41, S_42, hc_40, h⟩ := ob_2s h
          refine km_cVz (As := []) (rest := []) C (kX5_readSale hEE hc_40) (cwV 0 hts gX5_readWhole_X5_readSale rfl rfl rfl (by decide +kernel) ⟨(Nat.le_of_ble_eq_true rfl), (Nat.le_of_ble_eq_true rfl)⟩) mw_M rfl rfl rfl hP hD hS hl.1 rfl (Nat.le_of_ble_eq_true rfl) dX5_readWhole_142 (fun H locs hP hD hS hz_43 => ?_)
          refine lv_if_ne (tgt := 150) hx hb dX5_readWhole_145 (by decide) (fun c_44 => ?_) (fun c_44 => ?_)
          · have h := ob_f c_44 h
            exact kJ_36  _ h _ _ _ hP hD hS (lv_sub hl [0] rfl)
          · have h := ob_t c_44 h
            exact kx1 _ (ob_v h).symm _ _ _ hP hD hS (lv_sub hl [] rfl)
        · have h := ob_f c_39 h
          refine lv_aload_n hx hb dX5_readWhole_131 rfl (lv_at hl 0 rfl) ?_
          obtain ⟨r_46, S_47, hc_45, h⟩ := ob_2s h
          refine km_cVz (As := []) (rest := []) C (kX5_readHome hEE hc_45) (cwV 0 hts gX5_readWhole_X5_readHome rfl rfl rfl (by decide +kernel) ⟨(Nat.le_of_ble_eq_true rfl), (Nat.le_of_ble_eq_true rfl)⟩) mw_M rfl rfl rfl hP hD hS hl.1 rfl (Nat.le_of_ble_eq_true rfl) dX5_readWhole_132 (fun H locs hP hD hS hz_48 => ?_)
          refine lv_if_eq (tgt := 148) hx hb dX5_readWhole_135 (by decide) (fun c_49 => ?_) (fun c_49 => ?_)
          · have h := ob_t c_49 h
            exact kx1 _ (ob_v h).symm _ _ _ hP hD hS (lv_sub hl [] rfl)
          · have h := ob_f c_49 h
            refine lv_goto (tgt := 150) hx hb dX5_readWhole_138 (by decide) ?_
            exact kJ_36  _ h _ _ _ hP hD hS (lv_sub hl [0] rfl)
      refine lv_if_ne (tgt := 127) hx hb dX5_readWhole_91 (by decide) (fun c_51 => ?_) (fun c_51 => ?_)
      · have h := ob_f c_51 h
        exact kJ_34  _ h _ _ _ hP hD hS (lv_sub hl [1, 0] rfl)
      · have h := ob_t c_51 h
        refine lv_aload_n hx hb dX5_readWhole_94 rfl (lv_at hl 1 rfl) ?_
        refine va_get (D := D) (ci := 5) (v := .ref (ad 3)) (C := RX5) (T := TX5) (N := 31) hx hb hts ni_X5_readWhole_X5 hown hK hP 0 mw_M rfl 12 (by decide) (hts _ nf_X5_readWhole_f73) (fun _ h9 => h9) rfl dX5_readWhole_95 ?_
        refine lv_iconst (v := 1) hx hb dX5_readWhole_98 (by decide) ?_
        obtain ⟨hv_52, h⟩ := ob_in_s h
        refine va_iald hx hb hK hP 3 0 mw_read rfl hv_52 dX5_readWhole_99 ?_
        refine lv_if_eq (tgt := 121) hx hb dX5_readWhole_100 (by decide) (fun c_53 => ?_) (fun c_53 => ?_)
        · have h := ob_t c_53 h
          exact kx0 _ (ob_v h).symm _ _ _ hP hD hS (lv_sub hl [1] rfl)
        · have h := ob_f c_53 h
          refine lv_aload_n hx hb dX5_readWhole_103 rfl (lv_at hl 1 rfl) ?_
          refine lv_bipush (v := 115) hx hb dX5_readWhole_104 (by decide) ?_
          refine lv_bipush (v := 97) hx hb dX5_readWhole_106 (by decide) ?_
          refine lv_bipush (v := 108) hx hb dX5_readWhole_108 (by decide) ?_
          refine lv_bipush (v := 101) hx hb dX5_readWhole_110 (by decide) ?_
          obtain ⟨r_55, S_56, hc_54, h⟩ := ob_2s h
          refine km_cSl (As := [.int (115 : Int32), .int (97 : Int32), .int (108 : Int32), .int (101 : Int32)]) (rest := [.ref (ad 0)]) C (kX5_four hEE hc_54) (va_cwS 4 hts gX5_readWhole_X5_four rfl rfl rfl (by decide +kernel) ⟨(Nat.le_of_ble_eq_true rfl), (Nat.le_of_ble_eq_true rfl)⟩) rfl hP hD hS hl.1 rfl (Nat.le_of_ble_eq_true rfl) dX5_readWhole_112 (fun H locs hP hD hS => ?_)
          obtain ⟨r_58, S_59, hc_57, h⟩ := ob_2s h
          refine km_cVz (As := [.long r_55]) (rest := []) C (kX5_isWord hEE hc_57) (cwV 1 hts gX5_readWhole_X5_isWord rfl rfl rfl (by decide +kernel) ⟨(Nat.le_of_ble_eq_true rfl), (Nat.le_of_ble_eq_true rfl)⟩) mw_M rfl rfl rfl hP hD hS hl.1 rfl (Nat.le_of_ble_eq_true rfl) dX5_readWhole_115 (fun H locs hP hD hS hz_60 => ?_)
          refine lv_if_ne (tgt := 127) hx hb dX5_readWhole_118 (by decide) (fun c_61 => ?_) (fun c_61 => ?_)
          · have h := ob_f c_61 h
            exact kJ_34  _ h _ _ _ hP hD hS (lv_sub hl [1, 0] rfl)
          · have h := ob_t c_61 h
            exact kx0 _ (ob_v h).symm _ _ _ hP hD hS (lv_sub hl [1] rfl)
set_option maxHeartbeats 4000000 in
set_option maxRecDepth 100000 in
theorem kX5_readWhole {l : Launch} {D : va_G} {cy : Nat → ClassId} {ad : Nat → Nat} {E : ke_T} (hEE : km_E E) {S : RSt} {r : Int32} {S' : RSt} (h : fX5_readWhole S = some (r, S')) : km_z l D (mw_t cy) (mw_w cy ad) E yX5_readWhole wsX5_readWhole rmX5_readWhole [.ref (ad 0)] S r S' := by
  refine km_z_in (cc := cX5_readWhole) (nL := 2) hEE (by decide) rfl (Nat.le_of_ble_eq_true rfl) ?_
  intro p e s m below meth c A H ls C hP hD hS hl
  have C : km_C p s m _ meth c cX5_readWhole 2 RX5 wsX5_readWhole (some .boolean) D (mw_t cy) E A := C
  obtain ⟨⟨hx, hb, hml, hown, hts⟩, hr, hlk, hK, hA, hE, hEE⟩ := id C
  have hl : lv_has ls 2 [(0, .ref (ad 0))] := hl
  unfold fX5_readWhole at h
  refine lv_aload_n hx hb dX5_readWhole_0 rfl (lv_at hl 0 rfl) ?_
  obtain ⟨r_2, S_3, hc_1, h⟩ := ob_2s h
  refine km_cVz (As := []) (rest := []) C (kX5_readMonths hEE hc_1) (cwV 0 hts gX5_readWhole_X5_readMonths rfl rfl rfl (by decide +kernel) ⟨(Nat.le_of_ble_eq_true rfl), (Nat.le_of_ble_eq_true rfl)⟩) mw_M rfl rfl rfl hP hD hS hl.1 rfl (Nat.le_of_ble_eq_true rfl) dX5_readWhole_1 (fun H locs hP hD hS hz_4 => ?_)
  refine lv_if_ne (tgt := 9) hx hb dX5_readWhole_4 (by decide) (fun c_5 => ?_) (fun c_5 => ?_)
  · have h := ob_f c_5 h
    refine lv_aload_n hx hb dX5_readWhole_9 rfl (lv_at hl 0 rfl) ?_
    refine lv_dup hx hb dX5_readWhole_10 rfl ?_
    refine va_get (D := D) (ci := 5) (v := .int (st_i S_3 12)) (C := RX5) (T := TX5) (N := 31) hx hb hts ni_X5_readWhole_X5 hown hK hP 0 mw_M rfl 17 (by decide) (hts _ nf_X5_readWhole_f145) (fun _ h9 => h9) rfl dX5_readWhole_11 ?_
    refine lv_iconst (v := 1) hx hb dX5_readWhole_14 (by decide) ?_
    refine lv_iadd hx hb dX5_readWhole_15 ?_
    refine va_put (D := D) (ci := 5) (v := .int ((st_i S_3 12) + (1 : Int32))) (ty := .int) (C := RX5) (T := TX5) (N := 31) hx hb hts ni_X5_readWhole_X5 tyX5 tyX5_ok nmX5 hown hK hP hD hS 0 mw_M rfl 17 (by decide) (hts _ nf_X5_readWhole_f145) (fun _ h9 => h9) rfl (by decide +kernel) rfl rfl (Nat.le_of_ble_eq_true rfl) dX5_readWhole_16 (fun H locs hP hD hS => ?_)
    have hP := st_ps mw_s_lines hP
    have hD := st_ds mw_s_lines hD
    obtain ⟨Z_21, hq_19, h⟩ := ob_1s h
    refine kX5_readWhole_L19  C _  _ _ hq_19 hP hD hS (lv_sub hl [0] rfl) (fun S_22 ee_23 H locs ls hP hD hS hl => ?_) (fun S_24 ee_25 H locs ls hP hD hS hl => ?_)
    · subst ee_23
      have h := ob_s2_0 h
      refine lv_iconst (v := 0) hx hb dX5_readWhole_52 (by decide) ?_
      obtain ⟨rfl, rfl⟩ := ob_w h
      exact km_zret C (by decide) hP hD hS dX5_readWhole_53
    · subst ee_25
      have h := ob_s2_1 h
      obtain ⟨Z_64, hq_62, h⟩ := ob_1s h
      refine kX5_readWhole_L67  C _  _ _ hq_62 hP hD hS (lv_sub hl [0] rfl) (fun S_65 ee_66 H locs ls hP hD hS hl => ?_) (fun S_71 ee_72 H locs ls hP hD hS hl => ?_) (fun S_73 ee_74 H locs ls hP hD hS hl => ?_)
      · subst ee_66
        have h := ob_s3_0 h
        refine lv_aload_n hx hb dX5_readWhole_121 rfl (lv_at hl 0 rfl) ?_
        refine lv_iconst (v := 1) hx hb dX5_readWhole_122 (by decide) ?_
        obtain ⟨r_68, S_69, hc_67, h⟩ := ob_2s h
        refine km_cVz (As := [.int (1 : Int32)]) (rest := []) C (kX5_bad hEE hc_67) (cwV 1 hts gX5_readWhole_X5_bad rfl rfl rfl (by decide +kernel) ⟨(Nat.le_of_ble_eq_true rfl), (Nat.le_of_ble_eq_true rfl)⟩) mw_M rfl rfl rfl hP hD hS hl.1 rfl (Nat.le_of_ble_eq_true rfl) dX5_readWhole_123 (fun H locs hP hD hS hz_70 => ?_)
        obtain ⟨rfl, rfl⟩ := ob_w h
        exact km_zret C hz_70 hP hD hS dX5_readWhole_126
      · subst ee_72
        have h := ob_s3_1 h
        refine lv_iconst (v := 0) hx hb dX5_readWhole_148 (by decide) ?_
        obtain ⟨rfl, rfl⟩ := ob_w h
        exact km_zret C (by decide) hP hD hS dX5_readWhole_149
      · subst ee_74
        have h := ob_s3_2 h
        refine lv_iconst (v := 1) hx hb dX5_readWhole_163 (by decide) ?_
        obtain ⟨rfl, rfl⟩ := ob_w h
        exact km_zret C (by decide) hP hD hS dX5_readWhole_164
  · have h := ob_t c_5 h
    refine lv_iconst (v := 0) hx hb dX5_readWhole_7 (by decide) ?_
    obtain ⟨rfl, rfl⟩ := ob_w h
    exact km_zret C (by decide) hP hD hS dX5_readWhole_8
def fX5_text_L40 : Nat → Int32 → RSt → Option (RSt)
  | 0, _, _ => none
  | n + 1, x1, S => (if (58 : Int32) ≤ x1 then (some S) else (ob_in x1 58 (fX5_text_L40 n (x1 + (1 : Int32)) (st_sa S 2 x1.toNatClampNeg (0 : Int32)))))
def fX5_text_L79 : Nat → Int32 → RSt → Option (RSt)
  | 0, _, _ => none
  | n + 1, x1, S => (if (58 : Int32) ≤ x1 then (some S) else (ob_in x1 58 (ob_in x1 58 (fX5_text_L79 n (x1 + (1 : Int32)) (st_sa S 1 x1.toNatClampNeg (st_a S 2 x1.toNatClampNeg))))))
def fX5_text (S : RSt) : Option (Int32 × RSt) := (ob_1 (fX5_text_L40 1000 (0 : Int32) (st_si (st_si (st_si (st_si (st_si (st_si (st_si S 0 (0 : Int32)) 2 (st_i (st_si S 0 (0 : Int32)) 1)) 1 (0 : Int32)) 7 (0 : Int32)) 3 (0 : Int32)) 11 (0 : Int32)) 12 (0 : Int32))) fun S_4 => (ob_1 (fX5_go S_4) fun S_7 => (ob_2 (fX5_readWhole S_7) fun r_9 S_10 => (if r_9 = 0 then (some ((-1 : Int32) - (st_i S_10 8), S_10)) else (ob_1 (fX5_text_L79 1000 (0 : Int32) S_10) fun S_17 => (some (st_i (st_si S_17 9 (0 : Int32)) 12, (st_si S_17 9 (0 : Int32)))))))))
abbrev rmX5_text : Room := { frames := 5, cells := 0, slots := 0, locals := 109 }
theorem nf_X5_text_f1 : Cond.fieldLink RX5 1 "RepeatIndexModel" "thrown" "I" ∈ wsX5_text := by decide +kernel
theorem ni_X5_text_X5 : ∀ w ∈ u_ws RX5 TX5 31, w ∈ wsX5_text := by decide +kernel
theorem nf_X5_text_f11 : Cond.fieldLink RX5 11 "RepeatIndexModel" "taped" "I" ∈ wsX5_text := by decide +kernel
theorem nf_X5_text_f18 : Cond.fieldLink RX5 18 "RepeatIndexModel" "size" "I" ∈ wsX5_text := by decide +kernel
theorem nf_X5_text_f58 : Cond.fieldLink RX5 58 "RepeatIndexModel" "fault" "I" ∈ wsX5_text := by decide +kernel
theorem nf_X5_text_f21 : Cond.fieldLink RX5 21 "RepeatIndexModel" "to" "I" ∈ wsX5_text := by decide +kernel
theorem nf_X5_text_f139 : Cond.fieldLink RX5 139 "RepeatIndexModel" "sold" "I" ∈ wsX5_text := by decide +kernel
theorem nf_X5_text_f145 : Cond.fieldLink RX5 145 "RepeatIndexModel" "lines" "I" ∈ wsX5_text := by decide +kernel
theorem nf_X5_text_f73 : Cond.fieldLink RX5 73 "RepeatIndexModel" "read" "[I" ∈ wsX5_text := by decide +kernel
theorem nf_X5_text_f70 : Cond.fieldLink RX5 70 "RepeatIndexModel" "now" "[I" ∈ wsX5_text := by decide +kernel
theorem nf_X5_text_f162 : Cond.fieldLink RX5 162 "RepeatIndexModel" "snapMany" "I" ∈ wsX5_text := by decide +kernel
theorem nf_X5_text_f61 : Cond.fieldLink RX5 61 "RepeatIndexModel" "place" "I" ∈ wsX5_text := by decide +kernel
set_option maxHeartbeats 4000000 in
set_option maxRecDepth 100000 in
theorem kX5_text_L40 {l : Launch} {D : va_G} {cy : Nat → ClassId} {ad : Nat → Nat} {E : ke_T} {p : Program} {e : Env} {s : State} {m : MethodId} {args : Array Value} {below : List Frame} {meth : Method} {c : Code} {A : Nat → Prop} {Q : State → Prop} (C : km_C p s m args meth c cX5_text 2 RX5 wsX5_text (some .int) D (mw_t cy) E A) : ∀ (n : Nat) (x1 : Int32) (S : RSt) (S' : RSt) (h : fX5_text_L40 n x1 S = some S') {H : Heap} {locs : List Loc} {ls : Array Slot} (hP : va_P D vwCl ((mw_w cy ad) S) H) (hD : va_D A ((mw_w cy ad) S)) (hS : va_S A s.heap H locs) (hl : lv_has ls 2 [(0, .ref (ad 0)), (1, .int x1)]) (kx0 : ∀ (H : Heap) (locs : List Loc) (ls : Array Slot), va_P D vwCl ((mw_w cy ad) S') H → va_D A ((mw_w cy ad) S') → va_S A s.heap H locs → lv_has ls 2 [(0, .ref (ad 0))] → W p l e rmX5_text s m args below meth c H locs 0 0 Q (F0 m 59 ls [])), W p l e rmX5_text s m args below meth c H locs 0 0 Q (F0 m 40 ls []) := by
  obtain ⟨⟨hx, hb, hml, hown, hts⟩, hr, hlk, hK, hA, hE, hEE⟩ := id C
  intro n
  induction n with
  | zero =>
    intro x1 S S' h
    rw [fX5_text_L40] at h
    cases h
  | succ n ih =>
    intro x1 S S' h H locs ls hP hD hS hl kx0
    rw [fX5_text_L40] at h
    refine lv_iload_n hx hb dX5_text_40 rfl (lv_at hl 1 rfl) ?_
    refine lv_bipush (v := 58) hx hb dX5_text_41 (by decide) ?_
    refine lv_icmp_ge (tgt := 59) hx hb dX5_text_43 (by decide) (fun c_1 => ?_) (fun c_1 => ?_)
    · have h := ob_t c_1 h
      cases h
      exact kx0 _ _ _ hP hD hS (lv_sub hl [0] rfl)
    · have h := ob_f c_1 h
      refine lv_aload_n hx hb dX5_text_46 rfl (lv_at hl 0 rfl) ?_
      refine va_get (D := D) (ci := 5) (v := .ref (ad 3)) (C := RX5) (T := TX5) (N := 31) hx hb hts ni_X5_text_X5 hown hK hP 0 mw_M rfl 12 (by decide) (hts _ nf_X5_text_f73) (fun _ h9 => h9) rfl dX5_text_47 ?_
      refine lv_iload_n hx hb dX5_text_50 rfl (lv_at hl 1 rfl) ?_
      refine lv_iconst (v := 0) hx hb dX5_text_51 (by decide) ?_
      obtain ⟨hv_2, h⟩ := ob_in_s h
      refine va_iast hx hb hK hP hD hS 3 0 mw_read rfl hv_2 dX5_text_52 (fun H locs hP hD hS => ?_)
      have hP := st_ps mw_s_read hP
      have hD := st_ds mw_s_read hD
      refine lv_iinc (v := x1 + (1 : Int32)) (lv' := [(1, .int (x1 + (1 : Int32))), (0, .ref (ad 0))]) hx hb dX5_text_53 hl (k := 1) rfl (congrArg (fun z => x1 + z) (by decide)) (by decide) rfl (fun ls hl => ?_)
      refine lv_goto (tgt := 40) hx hb dX5_text_56 (by decide) ?_
      exact ih _ _ _ h hP hD hS (lv_sub hl [1, 0] rfl) kx0
set_option maxHeartbeats 4000000 in
set_option maxRecDepth 100000 in
theorem kX5_text_L79 {l : Launch} {D : va_G} {cy : Nat → ClassId} {ad : Nat → Nat} {E : ke_T} {p : Program} {e : Env} {s : State} {m : MethodId} {args : Array Value} {below : List Frame} {meth : Method} {c : Code} {A : Nat → Prop} {Q : State → Prop} (C : km_C p s m args meth c cX5_text 2 RX5 wsX5_text (some .int) D (mw_t cy) E A) : ∀ (n : Nat) (x1 : Int32) (S : RSt) (S' : RSt) (h : fX5_text_L79 n x1 S = some S') {H : Heap} {locs : List Loc} {ls : Array Slot} (hP : va_P D vwCl ((mw_w cy ad) S) H) (hD : va_D A ((mw_w cy ad) S)) (hS : va_S A s.heap H locs) (hl : lv_has ls 2 [(0, .ref (ad 0)), (1, .int x1)]) (kx0 : ∀ (H : Heap) (locs : List Loc) (ls : Array Slot), va_P D vwCl ((mw_w cy ad) S') H → va_D A ((mw_w cy ad) S') → va_S A s.heap H locs → lv_has ls 2 [(0, .ref (ad 0))] → W p l e rmX5_text s m args below meth c H locs 0 0 Q (F0 m 103 ls [])), W p l e rmX5_text s m args below meth c H locs 0 0 Q (F0 m 79 ls []) := by
  obtain ⟨⟨hx, hb, hml, hown, hts⟩, hr, hlk, hK, hA, hE, hEE⟩ := id C
  intro n
  induction n with
  | zero =>
    intro x1 S S' h
    rw [fX5_text_L79] at h
    cases h
  | succ n ih =>
    intro x1 S S' h H locs ls hP hD hS hl kx0
    rw [fX5_text_L79] at h
    refine lv_iload_n hx hb dX5_text_79 rfl (lv_at hl 1 rfl) ?_
    refine lv_bipush (v := 58) hx hb dX5_text_80 (by decide) ?_
    refine lv_icmp_ge (tgt := 103) hx hb dX5_text_82 (by decide) (fun c_13 => ?_) (fun c_13 => ?_)
    · have h := ob_t c_13 h
      cases h
      exact kx0 _ _ _ hP hD hS (lv_sub hl [0] rfl)
    · have h := ob_f c_13 h
      refine lv_aload_n hx hb dX5_text_85 rfl (lv_at hl 0 rfl) ?_
      refine va_get (D := D) (ci := 5) (v := .ref (ad 2)) (C := RX5) (T := TX5) (N := 31) hx hb hts ni_X5_text_X5 hown hK hP 0 mw_M rfl 11 (by decide) (hts _ nf_X5_text_f70) (fun _ h9 => h9) rfl dX5_text_86 ?_
      refine lv_iload_n hx hb dX5_text_89 rfl (lv_at hl 1 rfl) ?_
      refine lv_aload_n hx hb dX5_text_90 rfl (lv_at hl 0 rfl) ?_
      refine va_get (D := D) (ci := 5) (v := .ref (ad 3)) (C := RX5) (T := TX5) (N := 31) hx hb hts ni_X5_text_X5 hown hK hP 0 mw_M rfl 12 (by decide) (hts _ nf_X5_text_f73) (fun _ h9 => h9) rfl dX5_text_91 ?_
      refine lv_iload_n hx hb dX5_text_94 rfl (lv_at hl 1 rfl) ?_
      obtain ⟨hv_14, h⟩ := ob_in_s h
      refine va_iald hx hb hK hP 3 0 mw_read rfl hv_14 dX5_text_95 ?_
      obtain ⟨hv_15, h⟩ := ob_in_s h
      refine va_iast hx hb hK hP hD hS 2 0 mw_now rfl hv_15 dX5_text_96 (fun H locs hP hD hS => ?_)
      have hP := st_ps mw_s_now hP
      have hD := st_ds mw_s_now hD
      refine lv_iinc (v := x1 + (1 : Int32)) (lv' := [(1, .int (x1 + (1 : Int32))), (0, .ref (ad 0))]) hx hb dX5_text_97 hl (k := 1) rfl (congrArg (fun z => x1 + z) (by decide)) (by decide) rfl (fun ls hl => ?_)
      refine lv_goto (tgt := 79) hx hb dX5_text_100 (by decide) ?_
      exact ih _ _ _ h hP hD hS (lv_sub hl [1, 0] rfl) kx0
set_option maxHeartbeats 4000000 in
set_option maxRecDepth 100000 in
theorem kX5_text {l : Launch} {D : va_G} {cy : Nat → ClassId} {ad : Nat → Nat} {E : ke_T} (hEE : km_E E) {S : RSt} {r : Int32} {S' : RSt} (h : fX5_text S = some (r, S')) : km_i l D (mw_t cy) (mw_w cy ad) E yX5_text wsX5_text rmX5_text [.ref (ad 0)] S r S' := by
  refine km_i_in (cc := cX5_text) (nL := 2) hEE (by decide) rfl (Nat.le_of_ble_eq_true rfl) ?_
  intro p e s m below meth c A H ls C hP hD hS hl
  have C : km_C p s m _ meth c cX5_text 2 RX5 wsX5_text (some .int) D (mw_t cy) E A := C
  obtain ⟨⟨hx, hb, hml, hown, hts⟩, hr, hlk, hK, hA, hE, hEE⟩ := id C
  have hl : lv_has ls 2 [(0, .ref (ad 0))] := hl
  unfold fX5_text at h
  refine lv_aload_n hx hb dX5_text_0 rfl (lv_at hl 0 rfl) ?_
  refine lv_iconst (v := 0) hx hb dX5_text_1 (by decide) ?_
  refine va_put (D := D) (ci := 5) (v := .int (0 : Int32)) (ty := .int) (C := RX5) (T := TX5) (N := 31) hx hb hts ni_X5_text_X5 tyX5 tyX5_ok nmX5 hown hK hP hD hS 0 mw_M rfl 0 (by decide) (hts _ nf_X5_text_f1) (fun _ h9 => h9) rfl (by decide +kernel) rfl rfl (Nat.le_of_ble_eq_true rfl) dX5_text_2 (fun H locs hP hD hS => ?_)
  have hP := st_ps mw_s_thrown hP
  have hD := st_ds mw_s_thrown hD
  refine lv_aload_n hx hb dX5_text_5 rfl (lv_at hl 0 rfl) ?_
  refine lv_aload_n hx hb dX5_text_6 rfl (lv_at hl 0 rfl) ?_
  refine va_get (D := D) (ci := 5) (v := .int (st_i (st_si S 0 (0 : Int32)) 1)) (C := RX5) (T := TX5) (N := 31) hx hb hts ni_X5_text_X5 hown hK hP 0 mw_M rfl 2 (by decide) (hts _ nf_X5_text_f11) (fun _ h9 => h9) rfl dX5_text_7 ?_
  refine va_put (D := D) (ci := 5) (v := .int (st_i (st_si S 0 (0 : Int32)) 1)) (ty := .int) (C := RX5) (T := TX5) (N := 31) hx hb hts ni_X5_text_X5 tyX5 tyX5_ok nmX5 hown hK hP hD hS 0 mw_M rfl 3 (by decide) (hts _ nf_X5_text_f18) (fun _ h9 => h9) rfl (by decide +kernel) rfl rfl (Nat.le_of_ble_eq_true rfl) dX5_text_10 (fun H locs hP hD hS => ?_)
  have hP := st_ps mw_s_size hP
  have hD := st_ds mw_s_size hD
  refine lv_aload_n hx hb dX5_text_13 rfl (lv_at hl 0 rfl) ?_
  refine lv_iconst (v := 0) hx hb dX5_text_14 (by decide) ?_
  refine va_put (D := D) (ci := 5) (v := .int (0 : Int32)) (ty := .int) (C := RX5) (T := TX5) (N := 31) hx hb hts ni_X5_text_X5 tyX5 tyX5_ok nmX5 hown hK hP hD hS 0 mw_M rfl 2 (by decide) (hts _ nf_X5_text_f11) (fun _ h9 => h9) rfl (by decide +kernel) rfl rfl (Nat.le_of_ble_eq_true rfl) dX5_text_15 (fun H locs hP hD hS => ?_)
  have hP := st_ps mw_s_taped hP
  have hD := st_ds mw_s_taped hD
  refine lv_aload_n hx hb dX5_text_18 rfl (lv_at hl 0 rfl) ?_
  refine lv_iconst (v := 0) hx hb dX5_text_19 (by decide) ?_
  refine va_put (D := D) (ci := 5) (v := .int (0 : Int32)) (ty := .int) (C := RX5) (T := TX5) (N := 31) hx hb hts ni_X5_text_X5 tyX5 tyX5_ok nmX5 hown hK hP hD hS 0 mw_M rfl 8 (by decide) (hts _ nf_X5_text_f58) (fun _ h9 => h9) rfl (by decide +kernel) rfl rfl (Nat.le_of_ble_eq_true rfl) dX5_text_20 (fun H locs hP hD hS => ?_)
  have hP := st_ps mw_s_fault hP
  have hD := st_ds mw_s_fault hD
  refine lv_aload_n hx hb dX5_text_23 rfl (lv_at hl 0 rfl) ?_
  refine lv_iconst (v := 0) hx hb dX5_text_24 (by decide) ?_
  refine va_put (D := D) (ci := 5) (v := .int (0 : Int32)) (ty := .int) (C := RX5) (T := TX5) (N := 31) hx hb hts ni_X5_text_X5 tyX5 tyX5_ok nmX5 hown hK hP hD hS 0 mw_M rfl 4 (by decide) (hts _ nf_X5_text_f21) (fun _ h9 => h9) rfl (by decide +kernel) rfl rfl (Nat.le_of_ble_eq_true rfl) dX5_text_25 (fun H locs hP hD hS => ?_)
  have hP := st_ps mw_s_to hP
  have hD := st_ds mw_s_to hD
  refine lv_aload_n hx hb dX5_text_28 rfl (lv_at hl 0 rfl) ?_
  refine lv_iconst (v := 0) hx hb dX5_text_29 (by decide) ?_
  refine va_put (D := D) (ci := 5) (v := .int (0 : Int32)) (ty := .int) (C := RX5) (T := TX5) (N := 31) hx hb hts ni_X5_text_X5 tyX5 tyX5_ok nmX5 hown hK hP hD hS 0 mw_M rfl 16 (by decide) (hts _ nf_X5_text_f139) (fun _ h9 => h9) rfl (by decide +kernel) rfl rfl (Nat.le_of_ble_eq_true rfl) dX5_text_30 (fun H locs hP hD hS => ?_)
  have hP := st_ps mw_s_sold hP
  have hD := st_ds mw_s_sold hD
  refine lv_aload_n hx hb dX5_text_33 rfl (lv_at hl 0 rfl) ?_
  refine lv_iconst (v := 0) hx hb dX5_text_34 (by decide) ?_
  refine va_put (D := D) (ci := 5) (v := .int (0 : Int32)) (ty := .int) (C := RX5) (T := TX5) (N := 31) hx hb hts ni_X5_text_X5 tyX5 tyX5_ok nmX5 hown hK hP hD hS 0 mw_M rfl 17 (by decide) (hts _ nf_X5_text_f145) (fun _ h9 => h9) rfl (by decide +kernel) rfl rfl (Nat.le_of_ble_eq_true rfl) dX5_text_35 (fun H locs hP hD hS => ?_)
  have hP := st_ps mw_s_lines hP
  have hD := st_ds mw_s_lines hD
  refine lv_iconst (v := 0) hx hb dX5_text_38 (by decide) ?_
  refine lv_istore_n (lv' := [(1, .int (0 : Int32)), (0, .ref (ad 0))]) hx hb dX5_text_39 rfl hl (by decide) rfl (fun ls hl => ?_)
  obtain ⟨S_4, hq_3, h⟩ := ob_1s h
  refine kX5_text_L40  C _ _ _ _ hq_3 hP hD hS (lv_sub hl [1, 0] rfl) (fun H locs ls hP hD hS hl => ?_)
  refine lv_aload_n hx hb dX5_text_59 rfl (lv_at hl 0 rfl) ?_
  obtain ⟨S_7, hc_5, h⟩ := ob_1s h
  refine km_cVv (As := []) (rest := []) C (kX5_go hEE hc_5) (cwV 0 hts gX5_text_X5_go rfl rfl rfl (by decide +kernel) ⟨(Nat.le_of_ble_eq_true rfl), (Nat.le_of_ble_eq_true rfl)⟩) mw_M rfl rfl rfl hP hD hS hl.1 rfl (Nat.le_of_ble_eq_true rfl) dX5_text_60 (fun H locs hP hD hS => ?_)
  refine lv_aload_n hx hb dX5_text_63 rfl (lv_at hl 0 rfl) ?_
  obtain ⟨r_9, S_10, hc_8, h⟩ := ob_2s h
  refine km_cVz (As := []) (rest := []) C (kX5_readWhole hEE hc_8) (cwV 0 hts gX5_text_X5_readWhole rfl rfl rfl (by decide +kernel) ⟨(Nat.le_of_ble_eq_true rfl), (Nat.le_of_ble_eq_true rfl)⟩) mw_M rfl rfl rfl hP hD hS hl.1 rfl (Nat.le_of_ble_eq_true rfl) dX5_text_64 (fun H locs hP hD hS hz_11 => ?_)
  refine lv_if_ne (tgt := 77) hx hb dX5_text_67 (by decide) (fun c_12 => ?_) (fun c_12 => ?_)
  · have h := ob_f c_12 h
    refine lv_iconst (v := 0) hx hb dX5_text_77 (by decide) ?_
    refine lv_istore_n (lv' := [(1, .int (0 : Int32)), (0, .ref (ad 0))]) hx hb dX5_text_78 rfl hl (by decide) rfl (fun ls hl => ?_)
    obtain ⟨S_17, hq_16, h⟩ := ob_1s h
    refine kX5_text_L79  C _ _ _ _ hq_16 hP hD hS (lv_sub hl [1, 0] rfl) (fun H locs ls hP hD hS hl => ?_)
    refine lv_aload_n hx hb dX5_text_103 rfl (lv_at hl 0 rfl) ?_
    refine lv_iconst (v := 0) hx hb dX5_text_104 (by decide) ?_
    refine va_put (D := D) (ci := 5) (v := .int (0 : Int32)) (ty := .int) (C := RX5) (T := TX5) (N := 31) hx hb hts ni_X5_text_X5 tyX5 tyX5_ok nmX5 hown hK hP hD hS 0 mw_M rfl 14 (by decide) (hts _ nf_X5_text_f162) (fun _ h9 => h9) rfl (by decide +kernel) rfl rfl (Nat.le_of_ble_eq_true rfl) dX5_text_105 (fun H locs hP hD hS => ?_)
    have hP := st_ps mw_s_snapMany hP
    have hD := st_ds mw_s_snapMany hD
    refine lv_aload_n hx hb dX5_text_108 rfl (lv_at hl 0 rfl) ?_
    refine va_get (D := D) (ci := 5) (v := .int (st_i (st_si S_17 9 (0 : Int32)) 12)) (C := RX5) (T := TX5) (N := 31) hx hb hts ni_X5_text_X5 hown hK hP 0 mw_M rfl 17 (by decide) (hts _ nf_X5_text_f145) (fun _ h9 => h9) rfl dX5_text_109 ?_
    obtain ⟨rfl, rfl⟩ := ob_w h
    exact km_iret C hP hD hS dX5_text_112
  · have h := ob_t c_12 h
    refine lv_iconst (v := -1) hx hb dX5_text_70 (by decide) ?_
    refine lv_aload_n hx hb dX5_text_71 rfl (lv_at hl 0 rfl) ?_
    refine va_get (D := D) (ci := 5) (v := .int (st_i S_10 8)) (C := RX5) (T := TX5) (N := 31) hx hb hts ni_X5_text_X5 hown hK hP 0 mw_M rfl 9 (by decide) (hts _ nf_X5_text_f61) (fun _ h9 => h9) rfl dX5_text_72 ?_
    refine lv_isub hx hb dX5_text_75 ?_
    obtain ⟨rfl, rfl⟩ := ob_w h
    exact km_iret C hP hD hS dX5_text_76
def fX5_fault (S : RSt) : Option (Int32 × RSt) := (some (st_i (st_si S 0 (0 : Int32)) 7, (st_si S 0 (0 : Int32))))
abbrev rmX5_fault : Room := { frames := 0, cells := 0, slots := 0, locals := 0 }
theorem nf_X5_fault_f1 : Cond.fieldLink RX5 1 "RepeatIndexModel" "thrown" "I" ∈ wsX5_fault := by decide +kernel
theorem ni_X5_fault_X5 : ∀ w ∈ u_ws RX5 TX5 31, w ∈ wsX5_fault := by decide +kernel
theorem nf_X5_fault_f58 : Cond.fieldLink RX5 58 "RepeatIndexModel" "fault" "I" ∈ wsX5_fault := by decide +kernel
set_option maxHeartbeats 4000000 in
set_option maxRecDepth 100000 in
theorem kX5_fault {l : Launch} {D : va_G} {cy : Nat → ClassId} {ad : Nat → Nat} {E : ke_T} (hEE : km_E E) {S : RSt} {r : Int32} {S' : RSt} (h : fX5_fault S = some (r, S')) : km_i l D (mw_t cy) (mw_w cy ad) E yX5_fault wsX5_fault rmX5_fault [.ref (ad 0)] S r S' := by
  refine km_i_in (cc := cX5_fault) (nL := 1) hEE (by decide) rfl (Nat.le_of_ble_eq_true rfl) ?_
  intro p e s m below meth c A H ls C hP hD hS hl
  have C : km_C p s m _ meth c cX5_fault 1 RX5 wsX5_fault (some .int) D (mw_t cy) E A := C
  obtain ⟨⟨hx, hb, hml, hown, hts⟩, hr, hlk, hK, hA, hE, hEE⟩ := id C
  have hl : lv_has ls 1 [(0, .ref (ad 0))] := hl
  unfold fX5_fault at h
  refine lv_aload_n hx hb dX5_fault_0 rfl (lv_at hl 0 rfl) ?_
  refine lv_iconst (v := 0) hx hb dX5_fault_1 (by decide) ?_
  refine va_put (D := D) (ci := 5) (v := .int (0 : Int32)) (ty := .int) (C := RX5) (T := TX5) (N := 31) hx hb hts ni_X5_fault_X5 tyX5 tyX5_ok nmX5 hown hK hP hD hS 0 mw_M rfl 0 (by decide) (hts _ nf_X5_fault_f1) (fun _ h9 => h9) rfl (by decide +kernel) rfl rfl (Nat.le_of_ble_eq_true rfl) dX5_fault_2 (fun H locs hP hD hS => ?_)
  have hP := st_ps mw_s_thrown hP
  have hD := st_ds mw_s_thrown hD
  refine lv_aload_n hx hb dX5_fault_5 rfl (lv_at hl 0 rfl) ?_
  refine va_get (D := D) (ci := 5) (v := .int (st_i (st_si S 0 (0 : Int32)) 7)) (C := RX5) (T := TX5) (N := 31) hx hb hts ni_X5_fault_X5 hown hK hP 0 mw_M rfl 8 (by decide) (hts _ nf_X5_fault_f58) (fun _ h9 => h9) rfl dX5_fault_6 ?_
  obtain ⟨rfl, rfl⟩ := ob_w h
  exact km_iret C hP hD hS dX5_fault_9
