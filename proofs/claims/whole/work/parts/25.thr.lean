def fJ9_floorDiv_f86c9 (x0 : Int64) (x2 : Int64) (S : RSt) : Option (Int64 × RSt) := (ob_nz x2 (if 0 ≤ (lg_cmp (x0 ^^^ x2) (0 : Int64)) then (some (x0 / x2, S)) else (if (lg_cmp ((x0 / x2) * x2) x0) = 0 then (some (x0 / x2, S)) else (some ((x0 / x2) - (1 : Int64), S)))))
abbrev rmJ9_floorDiv_f86c9 : Room := { frames := 0, cells := 0, slots := 0, locals := 0 }
set_option maxHeartbeats 4000000 in
set_option maxRecDepth 100000 in
theorem kJ9_floorDiv_f86c9 {l : Launch} {D : va_G} {cy : Nat → ClassId} {ad : Nat → Nat} {E : ke_T} (hEE : km_E E) {x0 : Int64} {x2 : Int64} {S : RSt} {r : Int64} {S' : RSt} (h : fJ9_floorDiv_f86c9 x0 x2 S = some (r, S')) : km_l l D (rw_t cy) (rw_w cy ad) E yJ9_floorDiv_f86c9 wsJ9_floorDiv_f86c9 rmJ9_floorDiv_f86c9 [.long x0, .long x2] S r S' := by
  refine km_l_inF (cc := cJ9_floorDiv_f86c9) (nL := 6) hEE (by decide +kernel) rfl (Nat.le_of_ble_eq_true rfl) ?_
  intro p e s m below meth c A H ls C hP hD hS hl
  have C : km_C p s m _ meth c cJ9_floorDiv_f86c9 6 RJ9 wsJ9_floorDiv_f86c9 (some .long) D (rw_t cy) E A := C
  obtain ⟨⟨hx, hb, hml, hown, hts⟩, hr, hlk, hK, hA, hE, hEE⟩ := id C
  have hl : lv_has ls 6 [(0, .long x0), (2, .long x2)] := hl
  unfold fJ9_floorDiv_f86c9 at h
  refine lv_lload_n hx hb dJ9_floorDiv_f86c9_0 rfl (lv_at hl 0 rfl) ?_
  refine lv_lload_n hx hb dJ9_floorDiv_f86c9_1 rfl (lv_at hl 1 rfl) ?_
  obtain ⟨hv_1, h⟩ := ob_nz_s h
  refine lv_ldiv hx hb dJ9_floorDiv_f86c9_2 hv_1 ?_
  refine lv_lstore (lv' := [(4, .long (x0 / x2)), (0, .long x0), (2, .long x2)]) hx hb dJ9_floorDiv_f86c9_3 hl (by decide) rfl (fun ls hl => ?_)
  refine lv_lload_n hx hb dJ9_floorDiv_f86c9_5 rfl (lv_at hl 1 rfl) ?_
  refine lv_lload_n hx hb dJ9_floorDiv_f86c9_6 rfl (lv_at hl 2 rfl) ?_
  refine lv_lxor hx hb dJ9_floorDiv_f86c9_7 ?_
  refine lv_lconst (v := 0) hx hb dJ9_floorDiv_f86c9_8 (by decide) ?_
  refine W.lcmp hx hb dJ9_floorDiv_f86c9_9 ?_
  refine lv_if_ge (tgt := 27) hx hb dJ9_floorDiv_f86c9_10 (by decide) (fun c_2 => ?_) (fun c_2 => ?_)
  · have h := ob_t c_2 h
    refine lv_lload hx hb dJ9_floorDiv_f86c9_27 (lv_at hl 0 rfl) ?_
    obtain ⟨rfl, rfl⟩ := ob_w h
    exact km_lret C hP hD hS dJ9_floorDiv_f86c9_29
  · have h := ob_f c_2 h
    refine lv_lload hx hb dJ9_floorDiv_f86c9_13 (lv_at hl 0 rfl) ?_
    refine lv_lload_n hx hb dJ9_floorDiv_f86c9_15 rfl (lv_at hl 2 rfl) ?_
    refine lv_lmul hx hb dJ9_floorDiv_f86c9_16 ?_
    refine lv_lload_n hx hb dJ9_floorDiv_f86c9_17 rfl (lv_at hl 1 rfl) ?_
    refine W.lcmp hx hb dJ9_floorDiv_f86c9_18 ?_
    refine lv_if_eq (tgt := 27) hx hb dJ9_floorDiv_f86c9_19 (by decide) (fun c_3 => ?_) (fun c_3 => ?_)
    · have h := ob_t c_3 h
      refine lv_lload hx hb dJ9_floorDiv_f86c9_27 (lv_at hl 0 rfl) ?_
      obtain ⟨rfl, rfl⟩ := ob_w h
      exact km_lret C hP hD hS dJ9_floorDiv_f86c9_29
    · have h := ob_f c_3 h
      refine lv_lload hx hb dJ9_floorDiv_f86c9_22 (lv_at hl 0 rfl) ?_
      refine lv_lconst (v := 1) hx hb dJ9_floorDiv_f86c9_24 (by decide) ?_
      refine lv_lsub hx hb dJ9_floorDiv_f86c9_25 ?_
      obtain ⟨rfl, rfl⟩ := ob_w h
      exact km_lret C hP hD hS dJ9_floorDiv_f86c9_26
def fX4_worth (x1 : Int32) (x2 : Int32) (S : RSt) : Option (Int32 × RSt) := (ob_2 (fX0_hasHome 0 x1 S) fun r_2 S_3 => (if r_2 = 0 then (some ((-100000 : Int32), S_3)) else (ob_2 (fX0_hasMonth 0 x2 S_3) fun r_7 S_8 => (if r_7 = 0 then (some ((-100000 : Int32), S_8)) else (ob_2 (fX0_saleNearest 0 x1 x2 S_8) fun r_12 S_13 => (ob_1 (fX4_fitNow S_13) fun S_16 => (if r_12 = (-1 : Int32) then (some ((-100000 : Int32), S_16)) else (ob_in r_12 8 (ob_in x2 8 (if (st_a S_16 (26 + 0) r_12.toNatClampNeg) = (st_a S_16 (26 + 0) x2.toNatClampNeg) then (if 0 < (lg_cmp (st_j S_16 0) (0 : Int64)) then (ob_in x2 8 (ob_in r_12 8 (ob_2 (fX0_levelAt 0 x1 r_12 S_16) fun r_25 S_26 => (ob_2 (fJ9_floorDiv_f86c9 ((st_g S_16 0 x2.toNatClampNeg) - (st_g S_16 0 r_12.toNatClampNeg)) (st_j S_26 0) S_26) fun r_28 S_29 => (some (r_25 + r_28.toInt32, S_29)))))) else (some ((-100000 : Int32), S_16))) else (some ((-100000 : Int32), S_16))))))))))))
abbrev rmX4_worth : Room := { frames := 6, cells := 0, slots := 0, locals := 133 }
theorem nf_X4_worth_f19 : Cond.fieldLink RX4 19 "RepeatIndex" "book" "LRepeatIndex$Book;" ∈ wsX4_worth := by decide +kernel
theorem ni_X4_worth_X4 : ∀ w ∈ u_ws RX4 TX4 7, w ∈ wsX4_worth := by decide +kernel
theorem nf_X4_worth_c166 : Cond.constant RX4 166 (-100000) ∈ wsX4_worth := by decide +kernel
theorem nf_X4_worth_f122 : Cond.fieldLink RX4 122 "RepeatIndex$Fit" "parts" "[I" ∈ wsX4_worth := by decide +kernel
theorem ni_X4_worth_X1 : ∀ w ∈ u_ws RX1 TX1 8, w ∈ wsX4_worth := by decide +kernel
theorem nf_X4_worth_f134 : Cond.fieldLink RX4 134 "RepeatIndex$Fit" "bottom" "J" ∈ wsX4_worth := by decide +kernel
theorem nf_X4_worth_f170 : Cond.fieldLink RX4 170 "RepeatIndex$Fit" "tops" "[J" ∈ wsX4_worth := by decide +kernel
set_option maxHeartbeats 4000000 in
set_option maxRecDepth 100000 in
theorem kX4_worth {l : Launch} {D : va_G} {cy : Nat → ClassId} {ad : Nat → Nat} {E : ke_T} (hEE : km_E E) {x1 : Int32} {x2 : Int32} {S : RSt} {r : Int32} {S' : RSt} (h : fX4_worth x1 x2 S = some (r, S')) : km_i l D (rw_t cy) (rw_w cy ad) E yX4_worth wsX4_worth rmX4_worth [.ref (ad 17), .int x1, .int x2] S r S' := by
  refine km_i_in (cc := cX4_worth) (nL := 7) hEE (by decide) rfl (Nat.le_of_ble_eq_true rfl) ?_
  intro p e s m below meth c A H ls C hP hD hS hl
  have C : km_C p s m _ meth c cX4_worth 7 RX4 wsX4_worth (some .int) D (rw_t cy) E A := C
  obtain ⟨⟨hx, hb, hml, hown, hts⟩, hr, hlk, hK, hA, hE, hEE⟩ := id C
  have hl : lv_has ls 7 [(0, .ref (ad 17)), (1, .int x1), (2, .int x2)] := hl
  unfold fX4_worth at h
  refine lv_aload_n hx hb dX4_worth_0 rfl (lv_at hl 0 rfl) ?_
  refine va_get (D := D) (ci := 4) (v := .ref (ad 0)) (C := RX4) (T := TX4) (N := 7) hx hb hts ni_X4_worth_X4 hown hK hP 17 rw_Main rfl 1 (by decide) (hts _ nf_X4_worth_f19) (fun _ h9 => h9) rfl dX4_worth_1 ?_
  refine lv_iload_n hx hb dX4_worth_4 rfl (lv_at hl 1 rfl) ?_
  obtain ⟨r_2, S_3, hc_1, h⟩ := ob_2s h
  refine km_cVz (As := [.int x1]) (rest := []) C (kX0_hasHome hEE (by decide : 0 < 13) hc_1) (cwV 1 hts gX4_worth_X0_hasHome rfl rfl rfl (by decide +kernel) ⟨(Nat.le_of_ble_eq_true rfl), (Nat.le_of_ble_eq_true rfl)⟩) (rw_Book (by decide : 0 < 13)) rfl rfl rfl hP hD hS hl.1 rfl (Nat.le_of_ble_eq_true rfl) dX4_worth_5 (fun H locs hP hD hS hz_4 => ?_)
  refine lv_if_eq (tgt := 22) hx hb dX4_worth_8 (by decide) (fun c_5 => ?_) (fun c_5 => ?_)
  · have h := ob_t c_5 h
    refine lv_ldc (v := -100000) hx hb hown (hts _ nf_X4_worth_c166) dX4_worth_22 ?_
    obtain ⟨rfl, rfl⟩ := ob_w h
    exact km_iret C hP hD hS dX4_worth_24
  · have h := ob_f c_5 h
    refine lv_aload_n hx hb dX4_worth_11 rfl (lv_at hl 0 rfl) ?_
    refine va_get (D := D) (ci := 4) (v := .ref (ad 0)) (C := RX4) (T := TX4) (N := 7) hx hb hts ni_X4_worth_X4 hown hK hP 17 rw_Main rfl 1 (by decide) (hts _ nf_X4_worth_f19) (fun _ h9 => h9) rfl dX4_worth_12 ?_
    refine lv_iload_n hx hb dX4_worth_15 rfl (lv_at hl 2 rfl) ?_
    obtain ⟨r_7, S_8, hc_6, h⟩ := ob_2s h
    refine km_cVz (As := [.int x2]) (rest := []) C (kX0_hasMonth hEE (by decide : 0 < 13) hc_6) (cwV 1 hts gX4_worth_X0_hasMonth rfl rfl rfl (by decide +kernel) ⟨(Nat.le_of_ble_eq_true rfl), (Nat.le_of_ble_eq_true rfl)⟩) (rw_Book (by decide : 0 < 13)) rfl rfl rfl hP hD hS hl.1 rfl (Nat.le_of_ble_eq_true rfl) dX4_worth_16 (fun H locs hP hD hS hz_9 => ?_)
    refine lv_if_ne (tgt := 25) hx hb dX4_worth_19 (by decide) (fun c_10 => ?_) (fun c_10 => ?_)
    · have h := ob_f c_10 h
      refine lv_aload_n hx hb dX4_worth_25 rfl (lv_at hl 0 rfl) ?_
      refine va_get (D := D) (ci := 4) (v := .ref (ad 0)) (C := RX4) (T := TX4) (N := 7) hx hb hts ni_X4_worth_X4 hown hK hP 17 rw_Main rfl 1 (by decide) (hts _ nf_X4_worth_f19) (fun _ h9 => h9) rfl dX4_worth_26 ?_
      refine lv_iload_n hx hb dX4_worth_29 rfl (lv_at hl 1 rfl) ?_
      refine lv_iload_n hx hb dX4_worth_30 rfl (lv_at hl 2 rfl) ?_
      obtain ⟨r_12, S_13, hc_11, h⟩ := ob_2s h
      refine km_cVi (As := [.int x1, .int x2]) (rest := []) C (kX0_saleNearest hEE (by decide : 0 < 13) hc_11) (cwV 2 hts gX4_worth_X0_saleNearest rfl rfl rfl (by decide +kernel) ⟨(Nat.le_of_ble_eq_true rfl), (Nat.le_of_ble_eq_true rfl)⟩) (rw_Book (by decide : 0 < 13)) rfl rfl rfl hP hD hS hl.1 rfl (Nat.le_of_ble_eq_true rfl) dX4_worth_31 (fun H locs hP hD hS => ?_)
      refine lv_istore_n (lv' := [(3, .int r_12), (0, .ref (ad 17)), (1, .int x1), (2, .int x2)]) hx hb dX4_worth_34 rfl hl (by decide) rfl (fun ls hl => ?_)
      refine lv_aload_n hx hb dX4_worth_35 rfl (lv_at hl 1 rfl) ?_
      obtain ⟨S_16, hc_14, h⟩ := ob_1s h
      refine km_cVr (As := []) (rest := []) C (kX4_fitNow hEE hc_14) (cwV 0 hts gX4_worth_X4_fitNow rfl rfl rfl (by decide +kernel) ⟨(Nat.le_of_ble_eq_true rfl), (Nat.le_of_ble_eq_true rfl)⟩) rw_Main rfl rfl rfl hP hD hS hl.1 rfl (Nat.le_of_ble_eq_true rfl) dX4_worth_36 (fun H locs hP hD hS => ?_)
      refine lv_astore (lv' := [(4, .ref (ad (13 + 0))), (3, .int r_12), (0, .ref (ad 17)), (1, .int x1), (2, .int x2)]) hx hb dX4_worth_39 hl (by decide) rfl (fun ls hl => ?_)
      refine lv_iload_n hx hb dX4_worth_41 rfl (lv_at hl 1 rfl) ?_
      refine lv_iconst (v := -1) hx hb dX4_worth_42 (by decide) ?_
      refine lv_icmp_eq (tgt := 73) hx hb dX4_worth_43 (by decide) (fun c_17 => ?_) (fun c_17 => ?_)
      · have h := ob_t c_17 h
        refine lv_ldc (v := -100000) hx hb hown (hts _ nf_X4_worth_c166) dX4_worth_73 ?_
        obtain ⟨rfl, rfl⟩ := ob_w h
        exact km_iret C hP hD hS dX4_worth_75
      · have h := ob_f c_17 h
        refine lv_aload hx hb dX4_worth_46 (lv_at hl 0 rfl) ?_
        refine va_get (D := D) (ci := 1) (v := .ref (ad (49 + 0))) (C := RX1) (T := TX1) (N := 8) hx hb hts ni_X4_worth_X1 hown hK hP (13 + 0) (rw_Fit (by decide : 0 < 2)) rfl 3 (by decide) (hts _ nf_X4_worth_f122) (fun _ h9 => h9) rfl dX4_worth_48 ?_
        refine lv_iload_n hx hb dX4_worth_51 rfl (lv_at hl 1 rfl) ?_
        obtain ⟨hv_18, h⟩ := ob_in_s h
        refine va_iald hx hb hK hP (49 + 0) 0 (rw_parts (by decide : 0 < 2)) rfl hv_18 dX4_worth_52 ?_
        refine lv_aload hx hb dX4_worth_53 (lv_at hl 0 rfl) ?_
        refine va_get (D := D) (ci := 1) (v := .ref (ad (49 + 0))) (C := RX1) (T := TX1) (N := 8) hx hb hts ni_X4_worth_X1 hown hK hP (13 + 0) (rw_Fit (by decide : 0 < 2)) rfl 3 (by decide) (hts _ nf_X4_worth_f122) (fun _ h9 => h9) rfl dX4_worth_55 ?_
        refine lv_iload_n hx hb dX4_worth_58 rfl (lv_at hl 4 rfl) ?_
        obtain ⟨hv_19, h⟩ := ob_in_s h
        refine va_iald hx hb hK hP (49 + 0) 0 (rw_parts (by decide : 0 < 2)) rfl hv_19 dX4_worth_59 ?_
        refine lv_icmp_ne (tgt := 73) hx hb dX4_worth_60 (by decide) (fun c_20 => ?_) (fun c_20 => ?_)
        · have h := ob_f c_20 h
          refine lv_ldc (v := -100000) hx hb hown (hts _ nf_X4_worth_c166) dX4_worth_73 ?_
          obtain ⟨rfl, rfl⟩ := ob_w h
          exact km_iret C hP hD hS dX4_worth_75
        · have h := ob_t c_20 h
          refine lv_aload hx hb dX4_worth_63 (lv_at hl 0 rfl) ?_
          refine va_get (D := D) (ci := 1) (v := .long (st_j S_16 0)) (C := RX1) (T := TX1) (N := 8) hx hb hts ni_X4_worth_X1 hown hK hP (13 + 0) (rw_Fit (by decide : 0 < 2)) rfl 5 (by decide) (hts _ nf_X4_worth_f134) (fun _ h9 => h9) rfl dX4_worth_65 ?_
          refine lv_lconst (v := 0) hx hb dX4_worth_68 (by decide) ?_
          refine W.lcmp hx hb dX4_worth_69 ?_
          refine lv_if_gt (tgt := 76) hx hb dX4_worth_70 (by decide) (fun c_21 => ?_) (fun c_21 => ?_)
          · have h := ob_t c_21 h
            refine lv_aload hx hb dX4_worth_76 (lv_at hl 0 rfl) ?_
            refine va_get (D := D) (ci := 1) (v := .ref (ad (135 + 0))) (C := RX1) (T := TX1) (N := 8) hx hb hts ni_X4_worth_X1 hown hK hP (13 + 0) (rw_Fit (by decide : 0 < 2)) rfl 4 (by decide) (hts _ nf_X4_worth_f170) (fun _ h9 => h9) rfl dX4_worth_78 ?_
            refine lv_iload_n hx hb dX4_worth_81 rfl (lv_at hl 4 rfl) ?_
            obtain ⟨hv_22, h⟩ := ob_in_s h
            refine va_lald hx hb hK hP (135 + 0) 1 (rw_tops (by decide : 0 < 2)) rfl hv_22 dX4_worth_82 ?_
            refine lv_aload hx hb dX4_worth_83 (lv_at hl 0 rfl) ?_
            refine va_get (D := D) (ci := 1) (v := .ref (ad (135 + 0))) (C := RX1) (T := TX1) (N := 8) hx hb hts ni_X4_worth_X1 hown hK hP (13 + 0) (rw_Fit (by decide : 0 < 2)) rfl 4 (by decide) (hts _ nf_X4_worth_f170) (fun _ h9 => h9) rfl dX4_worth_85 ?_
            refine lv_iload_n hx hb dX4_worth_88 rfl (lv_at hl 1 rfl) ?_
            obtain ⟨hv_23, h⟩ := ob_in_s h
            refine va_lald hx hb hK hP (135 + 0) 1 (rw_tops (by decide : 0 < 2)) rfl hv_23 dX4_worth_89 ?_
            refine lv_lsub hx hb dX4_worth_90 ?_
            refine lv_lstore (lv' := [(5, .long ((st_g S_16 0 x2.toNatClampNeg) - (st_g S_16 0 r_12.toNatClampNeg))), (4, .ref (ad (13 + 0))), (3, .int r_12), (0, .ref (ad 17)), (1, .int x1), (2, .int x2)]) hx hb dX4_worth_91 hl (by decide) rfl (fun ls hl => ?_)
            refine lv_aload_n hx hb dX4_worth_93 rfl (lv_at hl 3 rfl) ?_
            refine va_get (D := D) (ci := 4) (v := .ref (ad 0)) (C := RX4) (T := TX4) (N := 7) hx hb hts ni_X4_worth_X4 hown hK hP 17 rw_Main rfl 1 (by decide) (hts _ nf_X4_worth_f19) (fun _ h9 => h9) rfl dX4_worth_94 ?_
            refine lv_iload_n hx hb dX4_worth_97 rfl (lv_at hl 4 rfl) ?_
            refine lv_iload_n hx hb dX4_worth_98 rfl (lv_at hl 2 rfl) ?_
            obtain ⟨r_25, S_26, hc_24, h⟩ := ob_2s h
            refine km_cVi (As := [.int x1, .int r_12]) (rest := []) C (kX0_levelAt hEE (by decide : 0 < 13) hc_24) (cwV 2 hts gX4_worth_X0_levelAt rfl rfl rfl (by decide +kernel) ⟨(Nat.le_of_ble_eq_true rfl), (Nat.le_of_ble_eq_true rfl)⟩) (rw_Book (by decide : 0 < 13)) rfl rfl rfl hP hD hS hl.1 rfl (Nat.le_of_ble_eq_true rfl) dX4_worth_99 (fun H locs hP hD hS => ?_)
            refine lv_lload hx hb dX4_worth_102 (lv_at hl 0 rfl) ?_
            refine lv_aload hx hb dX4_worth_104 (lv_at hl 1 rfl) ?_
            refine va_get (D := D) (ci := 1) (v := .long (st_j S_26 0)) (C := RX1) (T := TX1) (N := 8) hx hb hts ni_X4_worth_X1 hown hK hP (13 + 0) (rw_Fit (by decide : 0 < 2)) rfl 5 (by decide) (hts _ nf_X4_worth_f134) (fun _ h9 => h9) rfl dX4_worth_106 ?_
            obtain ⟨r_28, S_29, hc_27, h⟩ := ob_2s h
            refine km_cSl (As := [.long ((st_g S_16 0 x2.toNatClampNeg) - (st_g S_16 0 r_12.toNatClampNeg)), .long (st_j S_26 0)]) (rest := [.int r_25]) C (kJ9_floorDiv_f86c9 hEE hc_27) (va_cwS 2 hts gX4_worth_J9_floorDiv_f86c9 rfl rfl rfl (by decide +kernel) ⟨(Nat.le_of_ble_eq_true rfl), (Nat.le_of_ble_eq_true rfl)⟩) rfl hP hD hS hl.1 rfl (Nat.le_of_ble_eq_true rfl) dX4_worth_109 (fun H locs hP hD hS => ?_)
            refine lv_l2i hx hb dX4_worth_112 rfl ?_
            refine lv_iadd hx hb dX4_worth_113 ?_
            obtain ⟨rfl, rfl⟩ := ob_w h
            exact km_iret C hP hD hS dX4_worth_114
          · have h := ob_f c_21 h
            refine lv_ldc (v := -100000) hx hb hown (hts _ nf_X4_worth_c166) dX4_worth_73 ?_
            obtain ⟨rfl, rfl⟩ := ob_w h
            exact km_iret C hP hD hS dX4_worth_75
    · have h := ob_t c_10 h
      refine lv_ldc (v := -100000) hx hb hown (hts _ nf_X4_worth_c166) dX4_worth_22 ?_
      obtain ⟨rfl, rfl⟩ := ob_w h
      exact km_iret C hP hD hS dX4_worth_24
def fX1_tellIndex (j : Nat) (x1 : Int32) (x2 : Int32) (S : RSt) : Option (Int64 × RSt) := (ob_in x1 8 (ob_2 (fX4_lowestTerms (st_g S j x1.toNatClampNeg) (st_j S j) x2 S) fun r_3 S_4 => (some (r_3, S_4))))
abbrev rmX1_tellIndex : Room := { frames := 2, cells := 0, slots := 0, locals := 56 }
theorem nf_X1_tellIndex_f20 : Cond.fieldLink RX1 20 "RepeatIndex$Fit" "tops" "[J" ∈ wsX1_tellIndex := by decide +kernel
theorem ni_X1_tellIndex_X1 : ∀ w ∈ u_ws RX1 TX1 8, w ∈ wsX1_tellIndex := by decide +kernel
theorem nf_X1_tellIndex_f24 : Cond.fieldLink RX1 24 "RepeatIndex$Fit" "bottom" "J" ∈ wsX1_tellIndex := by decide +kernel
theorem nf_X1_tellIndex_iX4 : Cond.initialized RX4 ∈ wsX1_tellIndex := by decide +kernel
theorem nf_X1_tellIndex_slt : Cond.static yX4_lowestTerms ∈ wsX1_tellIndex := by decide +kernel
set_option maxHeartbeats 4000000 in
set_option maxRecDepth 100000 in
theorem kX1_tellIndex {l : Launch} {D : va_G} {cy : Nat → ClassId} {ad : Nat → Nat} {kn kv : Nat → Nat} (hEE : km_E (ke_R kn kv)) {j : Nat} (hj : j < 2) {x1 : Int32} {x2 : Int32} {S : RSt} {r : Int64} {S' : RSt} (h : fX1_tellIndex j x1 x2 S = some (r, S')) : km_l l D (rw_t cy) (rw_w cy ad) (ke_R kn kv) yX1_tellIndex wsX1_tellIndex rmX1_tellIndex [.ref (ad (13 + j)), .int x1, .int x2] S r S' := by
  refine km_l_in (cc := cX1_tellIndex) (nL := 3) hEE (by decide) rfl (Nat.le_of_ble_eq_true rfl) ?_
  intro p e s m below meth c A H ls C hP hD hS hl
  have C : km_C p s m _ meth c cX1_tellIndex 3 RX1 wsX1_tellIndex (some .long) D (rw_t cy) (ke_R kn kv) A := C
  obtain ⟨⟨hx, hb, hml, hown, hts⟩, hr, hlk, hK, hA, hE, hEE⟩ := id C
  have hl : lv_has ls 3 [(0, .ref (ad (13 + j))), (1, .int x1), (2, .int x2)] := hl
  unfold fX1_tellIndex at h
  refine lv_aload_n hx hb dX1_tellIndex_0 rfl (lv_at hl 0 rfl) ?_
  refine va_get (D := D) (ci := 1) (v := .ref (ad (135 + j))) (C := RX1) (T := TX1) (N := 8) hx hb hts ni_X1_tellIndex_X1 hown hK hP (13 + j) (rw_Fit hj) rfl 4 (by decide) (hts _ nf_X1_tellIndex_f20) (fun _ h9 => h9) rfl dX1_tellIndex_1 ?_
  refine lv_iload_n hx hb dX1_tellIndex_4 rfl (lv_at hl 1 rfl) ?_
  obtain ⟨hv_1, h⟩ := ob_in_s h
  refine va_lald hx hb hK hP (135 + j) 1 (rw_tops hj) rfl hv_1 dX1_tellIndex_5 ?_
  refine lv_aload_n hx hb dX1_tellIndex_6 rfl (lv_at hl 0 rfl) ?_
  refine va_get (D := D) (ci := 1) (v := .long (st_j S j)) (C := RX1) (T := TX1) (N := 8) hx hb hts ni_X1_tellIndex_X1 hown hK hP (13 + j) (rw_Fit hj) rfl 5 (by decide) (hts _ nf_X1_tellIndex_f24) (fun _ h9 => h9) rfl dX1_tellIndex_7 ?_
  refine lv_iload_n hx hb dX1_tellIndex_10 rfl (lv_at hl 2 rfl) ?_
  obtain ⟨r_3, S_4, hc_2, h⟩ := ob_2s h
  refine km_cNl (As := [.long (st_g S j x1.toNatClampNeg), .long (st_j S j), .int x2]) (rest := []) C (kX4_lowestTerms hEE hc_2) ⟨va_cnB 3 hts gX1_tellIndex_X4_lowestTerms_n62 rfl rfl rfl hE.1 (hts _ nf_X1_tellIndex_iX4) (by decide +kernel) ⟨(Nat.le_of_ble_eq_true rfl), (Nat.le_of_ble_eq_true rfl)⟩, (hts _ nf_X1_tellIndex_slt), trivial⟩ rfl hP hD hS hl.1 rfl (Nat.le_of_ble_eq_true rfl) dX1_tellIndex_11 (fun H locs hP hD hS => ?_)
  obtain ⟨rfl, rfl⟩ := ob_w h
  exact km_lret C hP hD hS dX1_tellIndex_14
def fX4_pair (x1 : Int32) (x2 : Int32) (S : RSt) : Option (Option Int32 × RSt) := (ob_1 (fX4_fitNow S) fun S_3 => (ob_2 (fX1_hasPair 0 x1 S_3) fun r_5 S_6 => (if r_5 = 0 then (some (none, S_6)) else (if x2 < 0 then (some (none, S_6)) else (if x2 < (5 : Int32) then (ob_in x1 42 (ob_in x2 5 (some (some (st_a S_6 (28 + 42 * 0 + x1.toNatClampNeg) x2.toNatClampNeg), S_6)))) else (some (none, S_6)))))))
abbrev rmX4_pair : Room := { frames := 6, cells := 1, slots := 6, locals := 133 }
theorem nx_X4_pair : Cond.classLink RX4 112 nse_n ∈ wsX4_pair ∧ Cond.initialized nse_n ∈ wsX4_pair ∧ ∀ w ∈ (vx_at0 RX4 114 nse_n ["java/lang/RuntimeException", "java/lang/Exception"]).filter goodWord, w ∈ wsX4_pair := ⟨by decide +kernel, by decide +kernel, fun _ h => List.mem_cons_of_mem _ (List.mem_append_right _ h)⟩
theorem nf_X4_pair_f115 : Cond.fieldLink RX4 115 "RepeatIndex$Fit" "pairRows" "[[I" ∈ wsX4_pair := by decide +kernel
theorem ni_X4_pair_X1 : ∀ w ∈ u_ws RX1 TX1 8, w ∈ wsX4_pair := by decide +kernel
set_option maxHeartbeats 4000000 in
set_option maxRecDepth 100000 in
theorem kX4_pair {l : Launch} {D : va_G} {cy : Nat → ClassId} {ad : Nat → Nat} {kn kv : Nat → Nat} (hEE : km_E (ke_R kn kv)) (hst : l.stackTraces = false) {x1 : Int32} {x2 : Int32} {S : RSt} {r : Option Int32} {S' : RSt} (h : fX4_pair x1 x2 S = some (r, S')) : kx_i l D (rw_t cy) (rw_w cy ad) (ke_R kn kv) yX4_pair wsX4_pair rmX4_pair [.ref (ad 17), .int x1, .int x2] S r S' := by
  refine kx_i_in (cc := cX4_pair) (nL := 4) hEE (by decide) rfl (Nat.le_of_ble_eq_true rfl) ?_
  intro p e s m below meth c A H ls C hxt hP hD hS hl
  have C : km_C p s m _ meth c cX4_pair 4 RX4 wsX4_pair (some .int) D (rw_t cy) (ke_R kn kv) A := C
  obtain ⟨⟨hx, hb, hml, hown, hts⟩, hr, hlk, hK, hA, hE, hEE⟩ := id C
  have hl : lv_has ls 4 [(0, .ref (ad 17)), (1, .int x1), (2, .int x2)] := hl
  unfold fX4_pair at h
  refine lv_aload_n hx hb dX4_pair_0 rfl (lv_at hl 0 rfl) ?_
  obtain ⟨S_3, hc_1, h⟩ := ob_1s h
  refine km_cVr (As := []) (rest := []) C (kX4_fitNow hEE hc_1) (cwV 0 hts gX4_pair_X4_fitNow rfl rfl rfl (by decide +kernel) ⟨(Nat.le_of_ble_eq_true rfl), (Nat.le_of_ble_eq_true rfl)⟩) rw_Main rfl rfl rfl hP hD hS hl.1 rfl (Nat.le_of_ble_eq_true rfl) dX4_pair_1 (fun H locs hP hD hS => ?_)
  refine lv_astore_n (lv' := [(3, .ref (ad (13 + 0))), (0, .ref (ad 17)), (1, .int x1), (2, .int x2)]) hx hb dX4_pair_4 rfl hl (by decide) rfl (fun ls hl => ?_)
  refine lv_aload_n hx hb dX4_pair_5 rfl (lv_at hl 0 rfl) ?_
  refine lv_iload_n hx hb dX4_pair_6 rfl (lv_at hl 2 rfl) ?_
  obtain ⟨r_5, S_6, hc_4, h⟩ := ob_2s h
  refine km_cVz (As := [.int x1]) (rest := []) C (kX1_hasPair hEE (by decide : 0 < 2) hc_4) (cwV 1 hts gX4_pair_X1_hasPair rfl rfl rfl (by decide +kernel) ⟨(Nat.le_of_ble_eq_true rfl), (Nat.le_of_ble_eq_true rfl)⟩) (rw_Fit (by decide : 0 < 2)) rfl rfl rfl hP hD hS hl.1 rfl (Nat.le_of_ble_eq_true rfl) dX4_pair_7 (fun H locs hP hD hS hz_7 => ?_)
  refine lv_if_eq (tgt := 22) hx hb dX4_pair_10 (by decide) (fun c_8 => ?_) (fun c_8 => ?_)
  · have h := ob_t c_8 h
    obtain ⟨rfl, rfl⟩ := ob_w h
    exact kx_thr (nL := 4) C hst hxt nx_X4_pair.1 nx_X4_pair.2.1 nx_X4_pair.2.2 rfl rfl hP hD hS hl.1 dX4_pair_22 dX4_pair_25 dX4_pair_26 dX4_pair_29 (Nat.le_of_ble_eq_true rfl) (Nat.le_of_ble_eq_true rfl) (Nat.le_of_ble_eq_true rfl) (Nat.le_of_ble_eq_true rfl)
  · have h := ob_f c_8 h
    refine lv_iload_n hx hb dX4_pair_13 rfl (lv_at hl 3 rfl) ?_
    refine lv_if_lt (tgt := 22) hx hb dX4_pair_14 (by decide) (fun c_9 => ?_) (fun c_9 => ?_)
    · have h := ob_t c_9 h
      obtain ⟨rfl, rfl⟩ := ob_w h
      exact kx_thr (nL := 4) C hst hxt nx_X4_pair.1 nx_X4_pair.2.1 nx_X4_pair.2.2 rfl rfl hP hD hS hl.1 dX4_pair_22 dX4_pair_25 dX4_pair_26 dX4_pair_29 (Nat.le_of_ble_eq_true rfl) (Nat.le_of_ble_eq_true rfl) (Nat.le_of_ble_eq_true rfl) (Nat.le_of_ble_eq_true rfl)
    · have h := ob_f c_9 h
      refine lv_iload_n hx hb dX4_pair_17 rfl (lv_at hl 3 rfl) ?_
      refine lv_iconst (v := 5) hx hb dX4_pair_18 (by decide) ?_
      refine lv_icmp_lt (tgt := 30) hx hb dX4_pair_19 (by decide) (fun c_10 => ?_) (fun c_10 => ?_)
      · have h := ob_t c_10 h
        refine lv_aload_n hx hb dX4_pair_30 rfl (lv_at hl 0 rfl) ?_
        refine va_get (D := D) (ci := 1) (v := .ref (ad (19 + 0))) (C := RX1) (T := TX1) (N := 8) hx hb hts ni_X4_pair_X1 hown hK hP (13 + 0) (rw_Fit (by decide : 0 < 2)) rfl 2 (by decide) (hts _ nf_X4_pair_f115) (fun _ h9 => h9) rfl dX4_pair_31 ?_
        refine lv_iload_n hx hb dX4_pair_34 rfl (lv_at hl 2 rfl) ?_
        obtain ⟨hv_11, h⟩ := ob_in_s h
        refine va_aldA hx hb hK hP (19 + 0) 4 (rw_pairRows (by decide : 0 < 2)) rfl hv_11 dX4_pair_35 ?_
        refine W.eq (g2 := F0 m 36 ls [.ref (ad (51 + 42 * 0 + x1.toNatClampNeg))]) rfl ?_
        refine lv_iload_n hx hb dX4_pair_36 rfl (lv_at hl 3 rfl) ?_
        obtain ⟨hv_12, h⟩ := ob_in_s h
        refine va_iald hx hb hK hP (51 + 42 * 0 + x1.toNatClampNeg) 0 (rw_prow (by decide : 0 < 2) (vp_lt hv_11)) rfl hv_12 dX4_pair_37 ?_
        obtain ⟨rfl, rfl⟩ := ob_w h
        exact kx_iret C hP hD hS dX4_pair_38
      · have h := ob_f c_10 h
        obtain ⟨rfl, rfl⟩ := ob_w h
        exact kx_thr (nL := 4) C hst hxt nx_X4_pair.1 nx_X4_pair.2.1 nx_X4_pair.2.2 rfl rfl hP hD hS hl.1 dX4_pair_22 dX4_pair_25 dX4_pair_26 dX4_pair_29 (Nat.le_of_ble_eq_true rfl) (Nat.le_of_ble_eq_true rfl) (Nat.le_of_ble_eq_true rfl) (Nat.le_of_ble_eq_true rfl)
def fX4_index (x1 : Int32) (x2 : Int32) (S : RSt) : Option (Option Int64 × RSt) := (ob_2 (fX0_hasMonth 0 x1 S) fun r_2 S_3 => (if r_2 = 0 then (some (none, S_3)) else (ob_1 (fX4_fitNow S_3) fun S_8 => (ob_2 (fX1_tellIndex 0 x1 x2 S_8) fun r_10 S_11 => (some (some (r_10), S_11))))))
abbrev rmX4_index : Room := { frames := 6, cells := 1, slots := 6, locals := 133 }
theorem nf_X4_index_f19 : Cond.fieldLink RX4 19 "RepeatIndex" "book" "LRepeatIndex$Book;" ∈ wsX4_index := by decide +kernel
theorem ni_X4_index_X4 : ∀ w ∈ u_ws RX4 TX4 7, w ∈ wsX4_index := by decide +kernel
theorem nx_X4_index : Cond.classLink RX4 112 nse_n ∈ wsX4_index ∧ Cond.initialized nse_n ∈ wsX4_index ∧ ∀ w ∈ (vx_at0 RX4 114 nse_n ["java/lang/RuntimeException", "java/lang/Exception"]).filter goodWord, w ∈ wsX4_index := ⟨by decide +kernel, by decide +kernel, fun _ h => List.mem_cons_of_mem _ (List.mem_append_right _ h)⟩
set_option maxHeartbeats 4000000 in
set_option maxRecDepth 100000 in
theorem kX4_index {l : Launch} {D : va_G} {cy : Nat → ClassId} {ad : Nat → Nat} {kn kv : Nat → Nat} (hEE : km_E (ke_R kn kv)) (hst : l.stackTraces = false) {x1 : Int32} {x2 : Int32} {S : RSt} {r : Option Int64} {S' : RSt} (h : fX4_index x1 x2 S = some (r, S')) : kx_l l D (rw_t cy) (rw_w cy ad) (ke_R kn kv) yX4_index wsX4_index rmX4_index [.ref (ad 17), .int x1, .int x2] S r S' := by
  refine kx_l_in (cc := cX4_index) (nL := 3) hEE (by decide) rfl (Nat.le_of_ble_eq_true rfl) ?_
  intro p e s m below meth c A H ls C hxt hP hD hS hl
  have C : km_C p s m _ meth c cX4_index 3 RX4 wsX4_index (some .long) D (rw_t cy) (ke_R kn kv) A := C
  obtain ⟨⟨hx, hb, hml, hown, hts⟩, hr, hlk, hK, hA, hE, hEE⟩ := id C
  have hl : lv_has ls 3 [(0, .ref (ad 17)), (1, .int x1), (2, .int x2)] := hl
  unfold fX4_index at h
  refine lv_aload_n hx hb dX4_index_0 rfl (lv_at hl 0 rfl) ?_
  refine va_get (D := D) (ci := 4) (v := .ref (ad 0)) (C := RX4) (T := TX4) (N := 7) hx hb hts ni_X4_index_X4 hown hK hP 17 rw_Main rfl 1 (by decide) (hts _ nf_X4_index_f19) (fun _ h9 => h9) rfl dX4_index_1 ?_
  refine lv_iload_n hx hb dX4_index_4 rfl (lv_at hl 1 rfl) ?_
  obtain ⟨r_2, S_3, hc_1, h⟩ := ob_2s h
  refine km_cVz (As := [.int x1]) (rest := []) C (kX0_hasMonth hEE (by decide : 0 < 13) hc_1) (cwV 1 hts gX4_index_X0_hasMonth rfl rfl rfl (by decide +kernel) ⟨(Nat.le_of_ble_eq_true rfl), (Nat.le_of_ble_eq_true rfl)⟩) (rw_Book (by decide : 0 < 13)) rfl rfl rfl hP hD hS hl.1 rfl (Nat.le_of_ble_eq_true rfl) dX4_index_5 (fun H locs hP hD hS hz_4 => ?_)
  refine lv_if_ne (tgt := 19) hx hb dX4_index_8 (by decide) (fun c_5 => ?_) (fun c_5 => ?_)
  · have h := ob_f c_5 h
    refine lv_aload_n hx hb dX4_index_19 rfl (lv_at hl 0 rfl) ?_
    obtain ⟨S_8, hc_6, h⟩ := ob_1s h
    refine km_cVr (As := []) (rest := []) C (kX4_fitNow hEE hc_6) (cwV 0 hts gX4_index_X4_fitNow rfl rfl rfl (by decide +kernel) ⟨(Nat.le_of_ble_eq_true rfl), (Nat.le_of_ble_eq_true rfl)⟩) rw_Main rfl rfl rfl hP hD hS hl.1 rfl (Nat.le_of_ble_eq_true rfl) dX4_index_20 (fun H locs hP hD hS => ?_)
    refine lv_iload_n hx hb dX4_index_23 rfl (lv_at hl 1 rfl) ?_
    refine lv_iload_n hx hb dX4_index_24 rfl (lv_at hl 2 rfl) ?_
    obtain ⟨r_10, S_11, hc_9, h⟩ := ob_2s h
    refine km_cVl (As := [.int x1, .int x2]) (rest := []) C (kX1_tellIndex hEE (by decide : 0 < 2) hc_9) (cwV 2 hts gX4_index_X1_tellIndex rfl rfl rfl (by decide +kernel) ⟨(Nat.le_of_ble_eq_true rfl), (Nat.le_of_ble_eq_true rfl)⟩) (rw_Fit (by decide : 0 < 2)) rfl rfl rfl hP hD hS hl.1 rfl (Nat.le_of_ble_eq_true rfl) dX4_index_25 (fun H locs hP hD hS => ?_)
    obtain ⟨rfl, rfl⟩ := ob_w h
    exact kx_lret C hP hD hS dX4_index_28
  · have h := ob_t c_5 h
    obtain ⟨rfl, rfl⟩ := ob_w h
    exact kx_thr (nL := 3) C hst hxt nx_X4_index.1 nx_X4_index.2.1 nx_X4_index.2.2 rfl rfl hP hD hS hl.1 dX4_index_11 dX4_index_14 dX4_index_15 dX4_index_18 (Nat.le_of_ble_eq_true rfl) (Nat.le_of_ble_eq_true rfl) (Nat.le_of_ble_eq_true rfl) (Nat.le_of_ble_eq_true rfl)
def fX4_off (x1 : Int32) (x2 : Int32) (S : RSt) : Option (Option Int64 × RSt) := (ob_1 (fX4_fitNow S) fun S_3 => (ob_2 (fX1_hasPair 0 x1 S_3) fun r_5 S_6 => (if r_5 = 0 then (some (none, S_6)) else (ob_2 (fX1_offTop 0 x1 S_6) fun r_10 S_11 => (ob_2 (fX4_lowestTerms r_10 (st_j S_11 0) x2 S_11) fun r_13 S_14 => (some (some (r_13), S_14)))))))
abbrev rmX4_off : Room := { frames := 6, cells := 1, slots := 6, locals := 133 }
theorem nf_X4_off_f134 : Cond.fieldLink RX4 134 "RepeatIndex$Fit" "bottom" "J" ∈ wsX4_off := by decide +kernel
theorem ni_X4_off_X1 : ∀ w ∈ u_ws RX1 TX1 8, w ∈ wsX4_off := by decide +kernel
theorem nx_X4_off : Cond.classLink RX4 112 nse_n ∈ wsX4_off ∧ Cond.initialized nse_n ∈ wsX4_off ∧ ∀ w ∈ (vx_at0 RX4 114 nse_n ["java/lang/RuntimeException", "java/lang/Exception"]).filter goodWord, w ∈ wsX4_off := ⟨by decide +kernel, by decide +kernel, fun _ h => List.mem_cons_of_mem _ (List.mem_append_right _ h)⟩
set_option maxHeartbeats 4000000 in
set_option maxRecDepth 100000 in
theorem kX4_off {l : Launch} {D : va_G} {cy : Nat → ClassId} {ad : Nat → Nat} {kn kv : Nat → Nat} (hEE : km_E (ke_R kn kv)) (hst : l.stackTraces = false) {x1 : Int32} {x2 : Int32} {S : RSt} {r : Option Int64} {S' : RSt} (h : fX4_off x1 x2 S = some (r, S')) : kx_l l D (rw_t cy) (rw_w cy ad) (ke_R kn kv) yX4_off wsX4_off rmX4_off [.ref (ad 17), .int x1, .int x2] S r S' := by
  refine kx_l_in (cc := cX4_off) (nL := 4) hEE (by decide) rfl (Nat.le_of_ble_eq_true rfl) ?_
  intro p e s m below meth c A H ls C hxt hP hD hS hl
  have C : km_C p s m _ meth c cX4_off 4 RX4 wsX4_off (some .long) D (rw_t cy) (ke_R kn kv) A := C
  obtain ⟨⟨hx, hb, hml, hown, hts⟩, hr, hlk, hK, hA, hE, hEE⟩ := id C
  have hl : lv_has ls 4 [(0, .ref (ad 17)), (1, .int x1), (2, .int x2)] := hl
  unfold fX4_off at h
  refine lv_aload_n hx hb dX4_off_0 rfl (lv_at hl 0 rfl) ?_
  obtain ⟨S_3, hc_1, h⟩ := ob_1s h
  refine km_cVr (As := []) (rest := []) C (kX4_fitNow hEE hc_1) (cwV 0 hts gX4_off_X4_fitNow rfl rfl rfl (by decide +kernel) ⟨(Nat.le_of_ble_eq_true rfl), (Nat.le_of_ble_eq_true rfl)⟩) rw_Main rfl rfl rfl hP hD hS hl.1 rfl (Nat.le_of_ble_eq_true rfl) dX4_off_1 (fun H locs hP hD hS => ?_)
  refine lv_astore_n (lv' := [(3, .ref (ad (13 + 0))), (0, .ref (ad 17)), (1, .int x1), (2, .int x2)]) hx hb dX4_off_4 rfl hl (by decide) rfl (fun ls hl => ?_)
  refine lv_aload_n hx hb dX4_off_5 rfl (lv_at hl 0 rfl) ?_
  refine lv_iload_n hx hb dX4_off_6 rfl (lv_at hl 2 rfl) ?_
  obtain ⟨r_5, S_6, hc_4, h⟩ := ob_2s h
  refine km_cVz (As := [.int x1]) (rest := []) C (kX1_hasPair hEE (by decide : 0 < 2) hc_4) (cwV 1 hts gX4_off_X1_hasPair rfl rfl rfl (by decide +kernel) ⟨(Nat.le_of_ble_eq_true rfl), (Nat.le_of_ble_eq_true rfl)⟩) (rw_Fit (by decide : 0 < 2)) rfl rfl rfl hP hD hS hl.1 rfl (Nat.le_of_ble_eq_true rfl) dX4_off_7 (fun H locs hP hD hS hz_7 => ?_)
  refine lv_if_ne (tgt := 21) hx hb dX4_off_10 (by decide) (fun c_8 => ?_) (fun c_8 => ?_)
  · have h := ob_f c_8 h
    refine lv_aload_n hx hb dX4_off_21 rfl (lv_at hl 0 rfl) ?_
    refine lv_iload_n hx hb dX4_off_22 rfl (lv_at hl 2 rfl) ?_
    obtain ⟨r_10, S_11, hc_9, h⟩ := ob_2s h
    refine km_cVl (As := [.int x1]) (rest := []) C (kX1_offTop hEE (by decide : 0 < 2) hc_9) (cwV 1 hts gX4_off_X1_offTop rfl rfl rfl (by decide +kernel) ⟨(Nat.le_of_ble_eq_true rfl), (Nat.le_of_ble_eq_true rfl)⟩) (rw_Fit (by decide : 0 < 2)) rfl rfl rfl hP hD hS hl.1 rfl (Nat.le_of_ble_eq_true rfl) dX4_off_23 (fun H locs hP hD hS => ?_)
    refine lv_aload_n hx hb dX4_off_26 rfl (lv_at hl 0 rfl) ?_
    refine va_get (D := D) (ci := 1) (v := .long (st_j S_11 0)) (C := RX1) (T := TX1) (N := 8) hx hb hts ni_X4_off_X1 hown hK hP (13 + 0) (rw_Fit (by decide : 0 < 2)) rfl 5 (by decide) (hts _ nf_X4_off_f134) (fun _ h9 => h9) rfl dX4_off_27 ?_
    refine lv_iload_n hx hb dX4_off_30 rfl (lv_at hl 3 rfl) ?_
    obtain ⟨r_13, S_14, hc_12, h⟩ := ob_2s h
    refine km_cSl (As := [.long r_10, .long (st_j S_11 0), .int x2]) (rest := []) C (kX4_lowestTerms hEE hc_12) (va_cwS 3 hts gX4_off_X4_lowestTerms rfl rfl rfl (by decide +kernel) ⟨(Nat.le_of_ble_eq_true rfl), (Nat.le_of_ble_eq_true rfl)⟩) rfl hP hD hS hl.1 rfl (Nat.le_of_ble_eq_true rfl) dX4_off_31 (fun H locs hP hD hS => ?_)
    obtain ⟨rfl, rfl⟩ := ob_w h
    exact kx_lret C hP hD hS dX4_off_34
  · have h := ob_t c_8 h
    obtain ⟨rfl, rfl⟩ := ob_w h
    exact kx_thr (nL := 4) C hst hxt nx_X4_off.1 nx_X4_off.2.1 nx_X4_off.2.2 rfl rfl hP hD hS hl.1 dX4_off_13 dX4_off_16 dX4_off_17 dX4_off_20 (Nat.le_of_ble_eq_true rfl) (Nat.le_of_ble_eq_true rfl) (Nat.le_of_ble_eq_true rfl) (Nat.le_of_ble_eq_true rfl)
def fX4_without (x1 : Int32) (x2 : Int32) (x3 : Int32) (S : RSt) : Option (Option Int64 × RSt) := (ob_2 (fX0_hasHome 0 x1 S) fun r_2 S_3 => (if r_2 = 0 then (some (none, S_3)) else (ob_2 (fX0_hasMonth 0 x2 S_3) fun r_7 S_8 => (if r_7 = 0 then (some (none, S_8)) else (ob_1 (fX0_copyFrom 1 0 S_8) fun S_13 => (ob_1 (fX0_clearHome 1 x1 S_13) fun S_16 => (ob_1 (fX1_solve 1 1 S_16) fun S_19 => (ob_2 (fX1_tellIndex 1 x2 x3 S_19) fun r_21 S_22 => (some (some (r_21), S_22))))))))))
abbrev rmX4_without : Room := { frames := 6, cells := 1, slots := 6, locals := 113 }
theorem nf_X4_without_f19 : Cond.fieldLink RX4 19 "RepeatIndex" "book" "LRepeatIndex$Book;" ∈ wsX4_without := by decide +kernel
theorem ni_X4_without_X4 : ∀ w ∈ u_ws RX4 TX4 7, w ∈ wsX4_without := by decide +kernel
theorem nx_X4_without : Cond.classLink RX4 112 nse_n ∈ wsX4_without ∧ Cond.initialized nse_n ∈ wsX4_without ∧ ∀ w ∈ (vx_at0 RX4 114 nse_n ["java/lang/RuntimeException", "java/lang/Exception"]).filter goodWord, w ∈ wsX4_without := ⟨by decide +kernel, by decide +kernel, fun _ h => List.mem_cons_of_mem _ (List.mem_append_right _ h)⟩
theorem nf_X4_without_f23 : Cond.fieldLink RX4 23 "RepeatIndex" "trial" "LRepeatIndex$Book;" ∈ wsX4_without := by decide +kernel
theorem nf_X4_without_f33 : Cond.fieldLink RX4 33 "RepeatIndex" "trialFit" "LRepeatIndex$Fit;" ∈ wsX4_without := by decide +kernel
set_option maxHeartbeats 4000000 in
set_option maxRecDepth 100000 in
theorem kX4_without {l : Launch} {D : va_G} {cy : Nat → ClassId} {ad : Nat → Nat} {kn kv : Nat → Nat} (hEE : km_E (ke_R kn kv)) (hst : l.stackTraces = false) {x1 : Int32} {x2 : Int32} {x3 : Int32} {S : RSt} {r : Option Int64} {S' : RSt} (h : fX4_without x1 x2 x3 S = some (r, S')) : kx_l l D (rw_t cy) (rw_w cy ad) (ke_R kn kv) yX4_without wsX4_without rmX4_without [.ref (ad 17), .int x1, .int x2, .int x3] S r S' := by
  refine kx_l_in (cc := cX4_without) (nL := 4) hEE (by decide) rfl (Nat.le_of_ble_eq_true rfl) ?_
  intro p e s m below meth c A H ls C hxt hP hD hS hl
  have C : km_C p s m _ meth c cX4_without 4 RX4 wsX4_without (some .long) D (rw_t cy) (ke_R kn kv) A := C
  obtain ⟨⟨hx, hb, hml, hown, hts⟩, hr, hlk, hK, hA, hE, hEE⟩ := id C
  have hl : lv_has ls 4 [(0, .ref (ad 17)), (1, .int x1), (2, .int x2), (3, .int x3)] := hl
  unfold fX4_without at h
  refine lv_aload_n hx hb dX4_without_0 rfl (lv_at hl 0 rfl) ?_
  refine va_get (D := D) (ci := 4) (v := .ref (ad 0)) (C := RX4) (T := TX4) (N := 7) hx hb hts ni_X4_without_X4 hown hK hP 17 rw_Main rfl 1 (by decide) (hts _ nf_X4_without_f19) (fun _ h9 => h9) rfl dX4_without_1 ?_
  refine lv_iload_n hx hb dX4_without_4 rfl (lv_at hl 1 rfl) ?_
  obtain ⟨r_2, S_3, hc_1, h⟩ := ob_2s h
  refine km_cVz (As := [.int x1]) (rest := []) C (kX0_hasHome hEE (by decide : 0 < 13) hc_1) (cwV 1 hts gX4_without_X0_hasHome rfl rfl rfl (by decide +kernel) ⟨(Nat.le_of_ble_eq_true rfl), (Nat.le_of_ble_eq_true rfl)⟩) (rw_Book (by decide : 0 < 13)) rfl rfl rfl hP hD hS hl.1 rfl (Nat.le_of_ble_eq_true rfl) dX4_without_5 (fun H locs hP hD hS hz_4 => ?_)
  refine lv_if_eq (tgt := 22) hx hb dX4_without_8 (by decide) (fun c_5 => ?_) (fun c_5 => ?_)
  · have h := ob_t c_5 h
    obtain ⟨rfl, rfl⟩ := ob_w h
    exact kx_thr (nL := 4) C hst hxt nx_X4_without.1 nx_X4_without.2.1 nx_X4_without.2.2 rfl rfl hP hD hS hl.1 dX4_without_22 dX4_without_25 dX4_without_26 dX4_without_29 (Nat.le_of_ble_eq_true rfl) (Nat.le_of_ble_eq_true rfl) (Nat.le_of_ble_eq_true rfl) (Nat.le_of_ble_eq_true rfl)
  · have h := ob_f c_5 h
    refine lv_aload_n hx hb dX4_without_11 rfl (lv_at hl 0 rfl) ?_
    refine va_get (D := D) (ci := 4) (v := .ref (ad 0)) (C := RX4) (T := TX4) (N := 7) hx hb hts ni_X4_without_X4 hown hK hP 17 rw_Main rfl 1 (by decide) (hts _ nf_X4_without_f19) (fun _ h9 => h9) rfl dX4_without_12 ?_
    refine lv_iload_n hx hb dX4_without_15 rfl (lv_at hl 2 rfl) ?_
    obtain ⟨r_7, S_8, hc_6, h⟩ := ob_2s h
    refine km_cVz (As := [.int x2]) (rest := []) C (kX0_hasMonth hEE (by decide : 0 < 13) hc_6) (cwV 1 hts gX4_without_X0_hasMonth rfl rfl rfl (by decide +kernel) ⟨(Nat.le_of_ble_eq_true rfl), (Nat.le_of_ble_eq_true rfl)⟩) (rw_Book (by decide : 0 < 13)) rfl rfl rfl hP hD hS hl.1 rfl (Nat.le_of_ble_eq_true rfl) dX4_without_16 (fun H locs hP hD hS hz_9 => ?_)
    refine lv_if_ne (tgt := 30) hx hb dX4_without_19 (by decide) (fun c_10 => ?_) (fun c_10 => ?_)
    · have h := ob_f c_10 h
      refine lv_aload_n hx hb dX4_without_30 rfl (lv_at hl 0 rfl) ?_
      refine va_get (D := D) (ci := 4) (v := .ref (ad 1)) (C := RX4) (T := TX4) (N := 7) hx hb hts ni_X4_without_X4 hown hK hP 17 rw_Main rfl 2 (by decide) (hts _ nf_X4_without_f23) (fun _ h9 => h9) rfl dX4_without_31 ?_
      refine lv_aload_n hx hb dX4_without_34 rfl (lv_at hl 0 rfl) ?_
      refine va_get (D := D) (ci := 4) (v := .ref (ad 0)) (C := RX4) (T := TX4) (N := 7) hx hb hts ni_X4_without_X4 hown hK hP 17 rw_Main rfl 1 (by decide) (hts _ nf_X4_without_f19) (fun _ h9 => h9) rfl dX4_without_35 ?_
      obtain ⟨S_13, hc_11, h⟩ := ob_1s h
      refine km_cVv (As := [.ref (ad 0)]) (rest := []) C (kX0_copyFrom hEE (by decide : 1 < 13) (by decide : 0 < 13) hc_11) (cwV 1 hts gX4_without_X0_copyFrom rfl rfl rfl (by decide +kernel) ⟨(Nat.le_of_ble_eq_true rfl), (Nat.le_of_ble_eq_true rfl)⟩) (rw_Book (by decide : 1 < 13)) rfl rfl rfl hP hD hS hl.1 rfl (Nat.le_of_ble_eq_true rfl) dX4_without_38 (fun H locs hP hD hS => ?_)
      refine lv_aload_n hx hb dX4_without_41 rfl (lv_at hl 0 rfl) ?_
      refine va_get (D := D) (ci := 4) (v := .ref (ad 1)) (C := RX4) (T := TX4) (N := 7) hx hb hts ni_X4_without_X4 hown hK hP 17 rw_Main rfl 2 (by decide) (hts _ nf_X4_without_f23) (fun _ h9 => h9) rfl dX4_without_42 ?_
      refine lv_iload_n hx hb dX4_without_45 rfl (lv_at hl 1 rfl) ?_
      obtain ⟨S_16, hc_14, h⟩ := ob_1s h
      refine km_cVv (As := [.int x1]) (rest := []) C (kX0_clearHome hEE (by decide : 1 < 13) hc_14) (cwV 1 hts gX4_without_X0_clearHome rfl rfl rfl (by decide +kernel) ⟨(Nat.le_of_ble_eq_true rfl), (Nat.le_of_ble_eq_true rfl)⟩) (rw_Book (by decide : 1 < 13)) rfl rfl rfl hP hD hS hl.1 rfl (Nat.le_of_ble_eq_true rfl) dX4_without_46 (fun H locs hP hD hS => ?_)
      refine lv_aload_n hx hb dX4_without_49 rfl (lv_at hl 0 rfl) ?_
      refine va_get (D := D) (ci := 4) (v := .ref (ad (13 + 1))) (C := RX4) (T := TX4) (N := 7) hx hb hts ni_X4_without_X4 hown hK hP 17 rw_Main rfl 4 (by decide) (hts _ nf_X4_without_f33) (fun _ h9 => h9) rfl dX4_without_50 ?_
      refine lv_aload_n hx hb dX4_without_53 rfl (lv_at hl 0 rfl) ?_
      refine va_get (D := D) (ci := 4) (v := .ref (ad 1)) (C := RX4) (T := TX4) (N := 7) hx hb hts ni_X4_without_X4 hown hK hP 17 rw_Main rfl 2 (by decide) (hts _ nf_X4_without_f23) (fun _ h9 => h9) rfl dX4_without_54 ?_
      obtain ⟨S_19, hc_17, h⟩ := ob_1s h
      refine km_cVv (As := [.ref (ad 1)]) (rest := []) C (kX1_solve hEE (by decide : 1 < 2) (by decide : 1 < 13) hc_17) (cwV 1 hts gX4_without_X1_solve rfl rfl rfl (by decide +kernel) ⟨(Nat.le_of_ble_eq_true rfl), (Nat.le_of_ble_eq_true rfl)⟩) (rw_Fit (by decide : 1 < 2)) rfl rfl rfl hP hD hS hl.1 rfl (Nat.le_of_ble_eq_true rfl) dX4_without_57 (fun H locs hP hD hS => ?_)
      refine lv_aload_n hx hb dX4_without_60 rfl (lv_at hl 0 rfl) ?_
      refine va_get (D := D) (ci := 4) (v := .ref (ad (13 + 1))) (C := RX4) (T := TX4) (N := 7) hx hb hts ni_X4_without_X4 hown hK hP 17 rw_Main rfl 4 (by decide) (hts _ nf_X4_without_f33) (fun _ h9 => h9) rfl dX4_without_61 ?_
      refine lv_iload_n hx hb dX4_without_64 rfl (lv_at hl 2 rfl) ?_
      refine lv_iload_n hx hb dX4_without_65 rfl (lv_at hl 3 rfl) ?_
      obtain ⟨r_21, S_22, hc_20, h⟩ := ob_2s h
      refine km_cVl (As := [.int x2, .int x3]) (rest := []) C (kX1_tellIndex hEE (by decide : 1 < 2) hc_20) (cwV 2 hts gX4_without_X1_tellIndex rfl rfl rfl (by decide +kernel) ⟨(Nat.le_of_ble_eq_true rfl), (Nat.le_of_ble_eq_true rfl)⟩) (rw_Fit (by decide : 1 < 2)) rfl rfl rfl hP hD hS hl.1 rfl (Nat.le_of_ble_eq_true rfl) dX4_without_66 (fun H locs hP hD hS => ?_)
      obtain ⟨rfl, rfl⟩ := ob_w h
      exact kx_lret C hP hD hS dX4_without_69
    · have h := ob_t c_10 h
      obtain ⟨rfl, rfl⟩ := ob_w h
      exact kx_thr (nL := 4) C hst hxt nx_X4_without.1 nx_X4_without.2.1 nx_X4_without.2.2 rfl rfl hP hD hS hl.1 dX4_without_22 dX4_without_25 dX4_without_26 dX4_without_29 (Nat.le_of_ble_eq_true rfl) (Nat.le_of_ble_eq_true rfl) (Nat.le_of_ble_eq_true rfl) (Nat.le_of_ble_eq_true rfl)
def fX4_revised (x1 : Int32) (x2 : Int32) (x3 : Int32) (x4 : Int32) (x5 : Int32) (S : RSt) : Option (Option Int64 × RSt) := (ob_2 (fX0_hasMonth 0 x4 S) fun r_2 S_3 => (if r_2 = 0 then (some (none, S_3)) else (ob_2 (fX0_canTake 0 x1 x2 x3 S_3) fun r_7 S_8 => (if r_7 = 0 then (some (none, S_8)) else (ob_1 (fX0_copyFrom 1 0 S_8) fun S_13 => (ob_1 (fX0_putSale 1 x1 x2 x3 S_13) fun S_16 => (ob_1 (fX1_solve 1 1 S_16) fun S_19 => (ob_2 (fX1_tellIndex 1 x4 x5 S_19) fun r_21 S_22 => (some (some (r_21), S_22))))))))))
abbrev rmX4_revised : Room := { frames := 6, cells := 1, slots := 6, locals := 113 }
theorem nf_X4_revised_f19 : Cond.fieldLink RX4 19 "RepeatIndex" "book" "LRepeatIndex$Book;" ∈ wsX4_revised := by decide +kernel
theorem ni_X4_revised_X4 : ∀ w ∈ u_ws RX4 TX4 7, w ∈ wsX4_revised := by decide +kernel
theorem nx_X4_revised : Cond.classLink RX4 112 nse_n ∈ wsX4_revised ∧ Cond.initialized nse_n ∈ wsX4_revised ∧ ∀ w ∈ (vx_at0 RX4 114 nse_n ["java/lang/RuntimeException", "java/lang/Exception"]).filter goodWord, w ∈ wsX4_revised := ⟨by decide +kernel, by decide +kernel, fun _ h => List.mem_cons_of_mem _ (List.mem_append_right _ h)⟩
theorem nf_X4_revised_f23 : Cond.fieldLink RX4 23 "RepeatIndex" "trial" "LRepeatIndex$Book;" ∈ wsX4_revised := by decide +kernel
theorem nf_X4_revised_f33 : Cond.fieldLink RX4 33 "RepeatIndex" "trialFit" "LRepeatIndex$Fit;" ∈ wsX4_revised := by decide +kernel
set_option maxHeartbeats 4000000 in
set_option maxRecDepth 100000 in
theorem kX4_revised {l : Launch} {D : va_G} {cy : Nat → ClassId} {ad : Nat → Nat} {kn kv : Nat → Nat} (hEE : km_E (ke_R kn kv)) (hst : l.stackTraces = false) {x1 : Int32} {x2 : Int32} {x3 : Int32} {x4 : Int32} {x5 : Int32} {S : RSt} {r : Option Int64} {S' : RSt} (h : fX4_revised x1 x2 x3 x4 x5 S = some (r, S')) : kx_l l D (rw_t cy) (rw_w cy ad) (ke_R kn kv) yX4_revised wsX4_revised rmX4_revised [.ref (ad 17), .int x1, .int x2, .int x3, .int x4, .int x5] S r S' := by
  refine kx_l_in (cc := cX4_revised) (nL := 6) hEE (by decide) rfl (Nat.le_of_ble_eq_true rfl) ?_
  intro p e s m below meth c A H ls C hxt hP hD hS hl
  have C : km_C p s m _ meth c cX4_revised 6 RX4 wsX4_revised (some .long) D (rw_t cy) (ke_R kn kv) A := C
  obtain ⟨⟨hx, hb, hml, hown, hts⟩, hr, hlk, hK, hA, hE, hEE⟩ := id C
  have hl : lv_has ls 6 [(0, .ref (ad 17)), (1, .int x1), (2, .int x2), (3, .int x3), (4, .int x4), (5, .int x5)] := hl
  unfold fX4_revised at h
  refine lv_aload_n hx hb dX4_revised_0 rfl (lv_at hl 0 rfl) ?_
  refine va_get (D := D) (ci := 4) (v := .ref (ad 0)) (C := RX4) (T := TX4) (N := 7) hx hb hts ni_X4_revised_X4 hown hK hP 17 rw_Main rfl 1 (by decide) (hts _ nf_X4_revised_f19) (fun _ h9 => h9) rfl dX4_revised_1 ?_
  refine lv_iload hx hb dX4_revised_4 (lv_at hl 4 rfl) ?_
  obtain ⟨r_2, S_3, hc_1, h⟩ := ob_2s h
  refine km_cVz (As := [.int x4]) (rest := []) C (kX0_hasMonth hEE (by decide : 0 < 13) hc_1) (cwV 1 hts gX4_revised_X0_hasMonth rfl rfl rfl (by decide +kernel) ⟨(Nat.le_of_ble_eq_true rfl), (Nat.le_of_ble_eq_true rfl)⟩) (rw_Book (by decide : 0 < 13)) rfl rfl rfl hP hD hS hl.1 rfl (Nat.le_of_ble_eq_true rfl) dX4_revised_6 (fun H locs hP hD hS hz_4 => ?_)
  refine lv_if_eq (tgt := 25) hx hb dX4_revised_9 (by decide) (fun c_5 => ?_) (fun c_5 => ?_)
  · have h := ob_t c_5 h
    obtain ⟨rfl, rfl⟩ := ob_w h
    exact kx_thr (nL := 6) C hst hxt nx_X4_revised.1 nx_X4_revised.2.1 nx_X4_revised.2.2 rfl rfl hP hD hS hl.1 dX4_revised_25 dX4_revised_28 dX4_revised_29 dX4_revised_32 (Nat.le_of_ble_eq_true rfl) (Nat.le_of_ble_eq_true rfl) (Nat.le_of_ble_eq_true rfl) (Nat.le_of_ble_eq_true rfl)
  · have h := ob_f c_5 h
    refine lv_aload_n hx hb dX4_revised_12 rfl (lv_at hl 0 rfl) ?_
    refine va_get (D := D) (ci := 4) (v := .ref (ad 0)) (C := RX4) (T := TX4) (N := 7) hx hb hts ni_X4_revised_X4 hown hK hP 17 rw_Main rfl 1 (by decide) (hts _ nf_X4_revised_f19) (fun _ h9 => h9) rfl dX4_revised_13 ?_
    refine lv_iload_n hx hb dX4_revised_16 rfl (lv_at hl 1 rfl) ?_
    refine lv_iload_n hx hb dX4_revised_17 rfl (lv_at hl 2 rfl) ?_
    refine lv_iload_n hx hb dX4_revised_18 rfl (lv_at hl 3 rfl) ?_
    obtain ⟨r_7, S_8, hc_6, h⟩ := ob_2s h
    refine km_cVz (As := [.int x1, .int x2, .int x3]) (rest := []) C (kX0_canTake hEE (by decide : 0 < 13) hc_6) (cwV 3 hts gX4_revised_X0_canTake rfl rfl rfl (by decide +kernel) ⟨(Nat.le_of_ble_eq_true rfl), (Nat.le_of_ble_eq_true rfl)⟩) (rw_Book (by decide : 0 < 13)) rfl rfl rfl hP hD hS hl.1 rfl (Nat.le_of_ble_eq_true rfl) dX4_revised_19 (fun H locs hP hD hS hz_9 => ?_)
    refine lv_if_ne (tgt := 33) hx hb dX4_revised_22 (by decide) (fun c_10 => ?_) (fun c_10 => ?_)
    · have h := ob_f c_10 h
      refine lv_aload_n hx hb dX4_revised_33 rfl (lv_at hl 0 rfl) ?_
      refine va_get (D := D) (ci := 4) (v := .ref (ad 1)) (C := RX4) (T := TX4) (N := 7) hx hb hts ni_X4_revised_X4 hown hK hP 17 rw_Main rfl 2 (by decide) (hts _ nf_X4_revised_f23) (fun _ h9 => h9) rfl dX4_revised_34 ?_
      refine lv_aload_n hx hb dX4_revised_37 rfl (lv_at hl 0 rfl) ?_
      refine va_get (D := D) (ci := 4) (v := .ref (ad 0)) (C := RX4) (T := TX4) (N := 7) hx hb hts ni_X4_revised_X4 hown hK hP 17 rw_Main rfl 1 (by decide) (hts _ nf_X4_revised_f19) (fun _ h9 => h9) rfl dX4_revised_38 ?_
      obtain ⟨S_13, hc_11, h⟩ := ob_1s h
      refine km_cVv (As := [.ref (ad 0)]) (rest := []) C (kX0_copyFrom hEE (by decide : 1 < 13) (by decide : 0 < 13) hc_11) (cwV 1 hts gX4_revised_X0_copyFrom rfl rfl rfl (by decide +kernel) ⟨(Nat.le_of_ble_eq_true rfl), (Nat.le_of_ble_eq_true rfl)⟩) (rw_Book (by decide : 1 < 13)) rfl rfl rfl hP hD hS hl.1 rfl (Nat.le_of_ble_eq_true rfl) dX4_revised_41 (fun H locs hP hD hS => ?_)
      refine lv_aload_n hx hb dX4_revised_44 rfl (lv_at hl 0 rfl) ?_
      refine va_get (D := D) (ci := 4) (v := .ref (ad 1)) (C := RX4) (T := TX4) (N := 7) hx hb hts ni_X4_revised_X4 hown hK hP 17 rw_Main rfl 2 (by decide) (hts _ nf_X4_revised_f23) (fun _ h9 => h9) rfl dX4_revised_45 ?_
      refine lv_iload_n hx hb dX4_revised_48 rfl (lv_at hl 1 rfl) ?_
      refine lv_iload_n hx hb dX4_revised_49 rfl (lv_at hl 2 rfl) ?_
      refine lv_iload_n hx hb dX4_revised_50 rfl (lv_at hl 3 rfl) ?_
      obtain ⟨S_16, hc_14, h⟩ := ob_1s h
      refine km_cVv (As := [.int x1, .int x2, .int x3]) (rest := []) C (kX0_putSale hEE (by decide : 1 < 13) hc_14) (cwV 3 hts gX4_revised_X0_putSale rfl rfl rfl (by decide +kernel) ⟨(Nat.le_of_ble_eq_true rfl), (Nat.le_of_ble_eq_true rfl)⟩) (rw_Book (by decide : 1 < 13)) rfl rfl rfl hP hD hS hl.1 rfl (Nat.le_of_ble_eq_true rfl) dX4_revised_51 (fun H locs hP hD hS => ?_)
      refine lv_aload_n hx hb dX4_revised_54 rfl (lv_at hl 0 rfl) ?_
      refine va_get (D := D) (ci := 4) (v := .ref (ad (13 + 1))) (C := RX4) (T := TX4) (N := 7) hx hb hts ni_X4_revised_X4 hown hK hP 17 rw_Main rfl 4 (by decide) (hts _ nf_X4_revised_f33) (fun _ h9 => h9) rfl dX4_revised_55 ?_
      refine lv_aload_n hx hb dX4_revised_58 rfl (lv_at hl 0 rfl) ?_
      refine va_get (D := D) (ci := 4) (v := .ref (ad 1)) (C := RX4) (T := TX4) (N := 7) hx hb hts ni_X4_revised_X4 hown hK hP 17 rw_Main rfl 2 (by decide) (hts _ nf_X4_revised_f23) (fun _ h9 => h9) rfl dX4_revised_59 ?_
      obtain ⟨S_19, hc_17, h⟩ := ob_1s h
      refine km_cVv (As := [.ref (ad 1)]) (rest := []) C (kX1_solve hEE (by decide : 1 < 2) (by decide : 1 < 13) hc_17) (cwV 1 hts gX4_revised_X1_solve rfl rfl rfl (by decide +kernel) ⟨(Nat.le_of_ble_eq_true rfl), (Nat.le_of_ble_eq_true rfl)⟩) (rw_Fit (by decide : 1 < 2)) rfl rfl rfl hP hD hS hl.1 rfl (Nat.le_of_ble_eq_true rfl) dX4_revised_62 (fun H locs hP hD hS => ?_)
      refine lv_aload_n hx hb dX4_revised_65 rfl (lv_at hl 0 rfl) ?_
      refine va_get (D := D) (ci := 4) (v := .ref (ad (13 + 1))) (C := RX4) (T := TX4) (N := 7) hx hb hts ni_X4_revised_X4 hown hK hP 17 rw_Main rfl 4 (by decide) (hts _ nf_X4_revised_f33) (fun _ h9 => h9) rfl dX4_revised_66 ?_
      refine lv_iload hx hb dX4_revised_69 (lv_at hl 4 rfl) ?_
      refine lv_iload hx hb dX4_revised_71 (lv_at hl 5 rfl) ?_
      obtain ⟨r_21, S_22, hc_20, h⟩ := ob_2s h
      refine km_cVl (As := [.int x4, .int x5]) (rest := []) C (kX1_tellIndex hEE (by decide : 1 < 2) hc_20) (cwV 2 hts gX4_revised_X1_tellIndex rfl rfl rfl (by decide +kernel) ⟨(Nat.le_of_ble_eq_true rfl), (Nat.le_of_ble_eq_true rfl)⟩) (rw_Fit (by decide : 1 < 2)) rfl rfl rfl hP hD hS hl.1 rfl (Nat.le_of_ble_eq_true rfl) dX4_revised_73 (fun H locs hP hD hS => ?_)
      obtain ⟨rfl, rfl⟩ := ob_w h
      exact kx_lret C hP hD hS dX4_revised_76
    · have h := ob_t c_10 h
      obtain ⟨rfl, rfl⟩ := ob_w h
      exact kx_thr (nL := 6) C hst hxt nx_X4_revised.1 nx_X4_revised.2.1 nx_X4_revised.2.2 rfl rfl hP hD hS hl.1 dX4_revised_25 dX4_revised_28 dX4_revised_29 dX4_revised_32 (Nat.le_of_ble_eq_true rfl) (Nat.le_of_ble_eq_true rfl) (Nat.le_of_ble_eq_true rfl) (Nat.le_of_ble_eq_true rfl)
