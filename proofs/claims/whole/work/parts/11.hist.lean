def fX2_forget (S : RSt) : Option (RSt) := (some (st_si S 43 (0 : Int32)))
abbrev rmX2_forget : Room := { frames := 0, cells := 0, slots := 0, locals := 0 }
theorem nf_X2_forget_f7 : Cond.fieldLink RX2 7 "RepeatIndex$History" "count" "I" ∈ wsX2_forget := by decide +kernel
theorem ni_X2_forget_X2 : ∀ w ∈ u_ws RX2 TX2 3, w ∈ wsX2_forget := by decide +kernel
set_option maxHeartbeats 4000000 in
set_option maxRecDepth 100000 in
theorem kX2_forget {l : Launch} {D : va_G} {cy : Nat → ClassId} {ad : Nat → Nat} {E : ke_T} (hEE : km_E E) {S : RSt} {S' : RSt} (h : fX2_forget S = some S') : km_v l D (rw_t cy) (rw_w cy ad) E yX2_forget wsX2_forget rmX2_forget [.ref (ad 15)] S S' := by
  refine km_v_in (cc := cX2_forget) (nL := 1) hEE (by decide) rfl (Nat.le_of_ble_eq_true rfl) ?_
  intro p e s m below meth c A H ls C hP hD hS hl
  have C : km_C p s m _ meth c cX2_forget 1 RX2 wsX2_forget none D (rw_t cy) E A := C
  obtain ⟨⟨hx, hb, hml, hown, hts⟩, hr, hlk, hK, hA, hE, hEE⟩ := id C
  have hl : lv_has ls 1 [(0, .ref (ad 15))] := hl
  unfold fX2_forget at h
  refine lv_aload_n hx hb dX2_forget_0 rfl (lv_at hl 0 rfl) ?_
  refine lv_iconst (v := 0) hx hb dX2_forget_1 (by decide) ?_
  refine va_put (D := D) (ci := 2) (v := .int (0 : Int32)) (ty := .int) (C := RX2) (T := TX2) (N := 3) hx hb hts ni_X2_forget_X2 tyX2 tyX2_ok nmX2 hown hK hP hD hS 15 rw_Hist rfl 0 (by decide) (hts _ nf_X2_forget_f7) (fun _ h9 => h9) rfl (by decide +kernel) rfl rfl (Nat.le_of_ble_eq_true rfl) dX2_forget_2 (fun H locs hP hD hS => ?_)
  have hP := st_ps rw_s_History_count hP
  have hD := st_ds rw_s_History_count hD
  obtain rfl := ob_v h
  exact km_vret C hP hD hS dX2_forget_5
def fX2_keep (u : Nat) (S : RSt) : Option (RSt) := (ob_in (st_i S 44) 10 (ob_1 (fX0_copyFrom (3 + (st_i S 44).toNatClampNeg) u S) fun S_4 => (ob_j (fun (sJ_5_0 : Int32) (S_6 : RSt) => (some (st_si (st_si S_6 44 sJ_5_0) 43 (if (10 : Int32) < ((st_i (st_si S_6 44 sJ_5_0) 43) + (1 : Int32)) then (10 : Int32) else ((st_i (st_si S_6 44 sJ_5_0) 43) + (1 : Int32)))))) fun tJ_5 => (if (10 : Int32) ≤ ((st_i S_4 44) + (1 : Int32)) then (tJ_5 (0 : Int32) S_4) else (tJ_5 ((st_i S_4 44) + (1 : Int32)) S_4)))))
abbrev rmX2_keep : Room := { frames := 2, cells := 0, slots := 0, locals := 81 }
theorem nf_X2_keep_f18 : Cond.fieldLink RX2 18 "RepeatIndex$History" "kept" "[LRepeatIndex$Book;" ∈ wsX2_keep := by decide +kernel
theorem ni_X2_keep_X2 : ∀ w ∈ u_ws RX2 TX2 3, w ∈ wsX2_keep := by decide +kernel
theorem nf_X2_keep_f13 : Cond.fieldLink RX2 13 "RepeatIndex$History" "next" "I" ∈ wsX2_keep := by decide +kernel
theorem nf_X2_keep_f7 : Cond.fieldLink RX2 7 "RepeatIndex$History" "count" "I" ∈ wsX2_keep := by decide +kernel
theorem nf_X2_keep_m27 : Cond.methodLink RX2 27 Lib.Math.min.name ∈ wsX2_keep := by decide +kernel
theorem nf_X2_keep_smin : Cond.static Lib.Math.min.name ∈ wsX2_keep := by decide +kernel
theorem nf_X2_keep_iMath : Cond.initialized "java/lang/Math" ∈ wsX2_keep := by decide +kernel
theorem nf_X2_keep_cmin : Cond.code Lib.Math.min.name Lib.Math.min.code 2 (some .int) ∈ wsX2_keep := List.mem_of_getElem? (i := 7) rfl
set_option maxHeartbeats 4000000 in
set_option maxRecDepth 100000 in
theorem kX2_keep {l : Launch} {D : va_G} {cy : Nat → ClassId} {ad : Nat → Nat} {E : ke_T} (hEE : km_E E) {u : Nat} (hu : u < 13) {S : RSt} {S' : RSt} (h : fX2_keep u S = some S') : km_v l D (rw_t cy) (rw_w cy ad) E yX2_keep wsX2_keep rmX2_keep [.ref (ad 15), .ref (ad u)] S S' := by
  refine km_v_in (cc := cX2_keep) (nL := 2) hEE (by decide) rfl (Nat.le_of_ble_eq_true rfl) ?_
  intro p e s m below meth c A H ls C hP hD hS hl
  have C : km_C p s m _ meth c cX2_keep 2 RX2 wsX2_keep none D (rw_t cy) E A := C
  obtain ⟨⟨hx, hb, hml, hown, hts⟩, hr, hlk, hK, hA, hE, hEE⟩ := id C
  have hl : lv_has ls 2 [(0, .ref (ad 15)), (1, .ref (ad u))] := hl
  unfold fX2_keep at h
  refine lv_aload_n hx hb dX2_keep_0 rfl (lv_at hl 0 rfl) ?_
  refine va_get (D := D) (ci := 2) (v := .ref (ad 18)) (C := RX2) (T := TX2) (N := 3) hx hb hts ni_X2_keep_X2 hown hK hP 15 rw_Hist rfl 2 (by decide) (hts _ nf_X2_keep_f18) (fun _ h9 => h9) rfl dX2_keep_1 ?_
  refine lv_aload_n hx hb dX2_keep_4 rfl (lv_at hl 0 rfl) ?_
  refine va_get (D := D) (ci := 2) (v := .int (st_i S 44)) (C := RX2) (T := TX2) (N := 3) hx hb hts ni_X2_keep_X2 hown hK hP 15 rw_Hist rfl 1 (by decide) (hts _ nf_X2_keep_f13) (fun _ h9 => h9) rfl dX2_keep_5 ?_
  obtain ⟨hv_1, h⟩ := ob_in_s h
  refine va_aldq hx hb hK hP 18 3 rw_kept rfl hv_1 dX2_keep_8 ?_
  refine W.eq (g2 := F0 m 9 ls [.ref (ad (3 + (st_i S 44).toNatClampNeg))]) rfl ?_
  refine lv_aload_n hx hb dX2_keep_9 rfl (lv_at hl 1 rfl) ?_
  obtain ⟨S_4, hc_2, h⟩ := ob_1s h
  refine km_cVv (As := [.ref (ad u)]) (rest := []) C (kX0_copyFrom hEE (vp_lt3 hv_1) hu hc_2) (cwV 1 hts gX2_keep_X0_copyFrom rfl rfl rfl (by decide +kernel) ⟨(Nat.le_of_ble_eq_true rfl), (Nat.le_of_ble_eq_true rfl)⟩) (rw_Book (vp_lt3 hv_1)) rfl rfl rfl hP hD hS hl.1 rfl (Nat.le_of_ble_eq_true rfl) dX2_keep_10 (fun H locs hP hD hS => ?_)
  refine lv_aload_n hx hb dX2_keep_13 rfl (lv_at hl 0 rfl) ?_
  refine lv_aload_n hx hb dX2_keep_14 rfl (lv_at hl 0 rfl) ?_
  refine va_get (D := D) (ci := 2) (v := .int (st_i S_4 44)) (C := RX2) (T := TX2) (N := 3) hx hb hts ni_X2_keep_X2 hown hK hP 15 rw_Hist rfl 1 (by decide) (hts _ nf_X2_keep_f13) (fun _ h9 => h9) rfl dX2_keep_15 ?_
  refine lv_iconst (v := 1) hx hb dX2_keep_18 (by decide) ?_
  refine lv_iadd hx hb dX2_keep_19 ?_
  refine lv_bipush (v := 10) hx hb dX2_keep_20 (by decide) ?_
  obtain ⟨tJ_5, hT_7, h⟩ := ob_js h
  have kJ_5 : ∀ (sJ_5_0 : Int32) (S_6 : RSt) (_ : tJ_5 sJ_5_0 S_6 = some S') (H : Heap) (locs : List Loc) (ls : Array Slot), va_P D vwCl ((rw_w cy ad) S_6) H → va_D A ((rw_w cy ad) S_6) → va_S A s.heap H locs → lv_has ls 2 [(0, .ref (ad 15))] → W p l e rmX2_keep s m ([.ref (ad 15), .ref (ad u)] : List Value).toArray below meth c H locs 0 0 (km_Qv below D (rw_t cy) (rw_w cy ad) A ([.ref (ad 15), .ref (ad u)] : List Value).toArray s S') (F0 m 35 ls [.int sJ_5_0, .ref (ad 15)]) := by
    intro sJ_5_0 S_6 h H locs ls hP hD hS hl
    rw [← hT_7] at h
    refine va_put (D := D) (ci := 2) (v := .int sJ_5_0) (ty := .int) (C := RX2) (T := TX2) (N := 3) hx hb hts ni_X2_keep_X2 tyX2 tyX2_ok nmX2 hown hK hP hD hS 15 rw_Hist rfl 1 (by decide) (hts _ nf_X2_keep_f13) (fun _ h9 => h9) rfl (by decide +kernel) rfl rfl (Nat.le_of_ble_eq_true rfl) dX2_keep_35 (fun H locs hP hD hS => ?_)
    have hP := st_ps rw_s_History_next hP
    have hD := st_ds rw_s_History_next hD
    refine lv_aload_n hx hb dX2_keep_38 rfl (lv_at hl 0 rfl) ?_
    refine lv_aload_n hx hb dX2_keep_39 rfl (lv_at hl 0 rfl) ?_
    refine va_get (D := D) (ci := 2) (v := .int (st_i (st_si S_6 44 sJ_5_0) 43)) (C := RX2) (T := TX2) (N := 3) hx hb hts ni_X2_keep_X2 hown hK hP 15 rw_Hist rfl 0 (by decide) (hts _ nf_X2_keep_f7) (fun _ h9 => h9) rfl dX2_keep_40 ?_
    refine lv_iconst (v := 1) hx hb dX2_keep_43 (by decide) ?_
    refine lv_iadd hx hb dX2_keep_44 ?_
    refine lv_bipush (v := 10) hx hb dX2_keep_45 (by decide) ?_
    refine va_mmin hx hb (by rw [hml]; exact hl.1.symm) hown (hts _ nf_X2_keep_m27) (hts _ nf_X2_keep_smin) (hts _ nf_X2_keep_iMath) (hts _ nf_X2_keep_cmin) (Nat.le_of_ble_eq_true rfl) (Nat.le_of_ble_eq_true rfl) (Nat.zero_le _) (Nat.zero_le _) dX2_keep_47 ?_
    refine va_put (D := D) (ci := 2) (v := .int (if (10 : Int32) < ((st_i (st_si S_6 44 sJ_5_0) 43) + (1 : Int32)) then (10 : Int32) else ((st_i (st_si S_6 44 sJ_5_0) 43) + (1 : Int32)))) (ty := .int) (C := RX2) (T := TX2) (N := 3) hx hb hts ni_X2_keep_X2 tyX2 tyX2_ok nmX2 hown hK hP hD hS 15 rw_Hist rfl 0 (by decide) (hts _ nf_X2_keep_f7) (fun _ h9 => h9) rfl (by decide +kernel) rfl rfl (Nat.le_of_ble_eq_true rfl) dX2_keep_50 (fun H locs hP hD hS => ?_)
    have hP := st_ps rw_s_History_count hP
    have hD := st_ds rw_s_History_count hD
    obtain rfl := ob_v h
    exact km_vret C hP hD hS dX2_keep_53
  refine lv_icmp_ge (tgt := 34) hx hb dX2_keep_22 (by decide) (fun c_8 => ?_) (fun c_8 => ?_)
  · have h := ob_t c_8 h
    refine lv_iconst (v := 0) hx hb dX2_keep_34 (by decide) ?_
    exact kJ_5 _ _ h _ _ _ hP hD hS (lv_sub hl [0] rfl)
  · have h := ob_f c_8 h
    refine lv_aload_n hx hb dX2_keep_25 rfl (lv_at hl 0 rfl) ?_
    refine va_get (D := D) (ci := 2) (v := .int (st_i S_4 44)) (C := RX2) (T := TX2) (N := 3) hx hb hts ni_X2_keep_X2 hown hK hP 15 rw_Hist rfl 1 (by decide) (hts _ nf_X2_keep_f13) (fun _ h9 => h9) rfl dX2_keep_26 ?_
    refine lv_iconst (v := 1) hx hb dX2_keep_29 (by decide) ?_
    refine lv_iadd hx hb dX2_keep_30 ?_
    refine lv_goto (tgt := 35) hx hb dX2_keep_31 (by decide) ?_
    exact kJ_5 _ _ h _ _ _ hP hD hS (lv_sub hl [0] rfl)
def fX2_giveBack (u : Nat) (S : RSt) : Option (Int32 × RSt) := (if (st_i S 43) = 0 then (some ((0 : Int32), S)) else (ob_j (fun (sJ_2_0 : Int32) (S_3 : RSt) => (ob_in (st_i (st_si S_3 44 sJ_2_0) 44) 10 (ob_1 (fX0_copyFrom u (3 + (st_i (st_si S_3 44 sJ_2_0) 44).toNatClampNeg) (st_si S_3 44 sJ_2_0)) fun S_7 => (some ((1 : Int32), (st_si S_7 43 ((st_i S_7 43) - (1 : Int32)))))))) fun tJ_2 => (if (st_i S 44) ≤ 0 then (tJ_2 (9 : Int32) S) else (tJ_2 ((st_i S 44) - (1 : Int32)) S))))
abbrev rmX2_giveBack : Room := { frames := 2, cells := 0, slots := 0, locals := 81 }
theorem nf_X2_giveBack_f7 : Cond.fieldLink RX2 7 "RepeatIndex$History" "count" "I" ∈ wsX2_giveBack := by decide +kernel
theorem ni_X2_giveBack_X2 : ∀ w ∈ u_ws RX2 TX2 3, w ∈ wsX2_giveBack := by decide +kernel
theorem nf_X2_giveBack_f13 : Cond.fieldLink RX2 13 "RepeatIndex$History" "next" "I" ∈ wsX2_giveBack := by decide +kernel
theorem nf_X2_giveBack_f18 : Cond.fieldLink RX2 18 "RepeatIndex$History" "kept" "[LRepeatIndex$Book;" ∈ wsX2_giveBack := by decide +kernel
set_option maxHeartbeats 4000000 in
set_option maxRecDepth 100000 in
theorem kX2_giveBack {l : Launch} {D : va_G} {cy : Nat → ClassId} {ad : Nat → Nat} {E : ke_T} (hEE : km_E E) {u : Nat} (hu : u < 13) {S : RSt} {r : Int32} {S' : RSt} (h : fX2_giveBack u S = some (r, S')) : km_z l D (rw_t cy) (rw_w cy ad) E yX2_giveBack wsX2_giveBack rmX2_giveBack [.ref (ad 15), .ref (ad u)] S r S' := by
  refine km_z_in (cc := cX2_giveBack) (nL := 2) hEE (by decide) rfl (Nat.le_of_ble_eq_true rfl) ?_
  intro p e s m below meth c A H ls C hP hD hS hl
  have C : km_C p s m _ meth c cX2_giveBack 2 RX2 wsX2_giveBack (some .boolean) D (rw_t cy) E A := C
  obtain ⟨⟨hx, hb, hml, hown, hts⟩, hr, hlk, hK, hA, hE, hEE⟩ := id C
  have hl : lv_has ls 2 [(0, .ref (ad 15)), (1, .ref (ad u))] := hl
  unfold fX2_giveBack at h
  refine lv_aload_n hx hb dX2_giveBack_0 rfl (lv_at hl 0 rfl) ?_
  refine va_get (D := D) (ci := 2) (v := .int (st_i S 43)) (C := RX2) (T := TX2) (N := 3) hx hb hts ni_X2_giveBack_X2 hown hK hP 15 rw_Hist rfl 0 (by decide) (hts _ nf_X2_giveBack_f7) (fun _ h9 => h9) rfl dX2_giveBack_1 ?_
  refine lv_if_ne (tgt := 9) hx hb dX2_giveBack_4 (by decide) (fun c_1 => ?_) (fun c_1 => ?_)
  · have h := ob_f c_1 h
    refine lv_aload_n hx hb dX2_giveBack_9 rfl (lv_at hl 0 rfl) ?_
    refine lv_aload_n hx hb dX2_giveBack_10 rfl (lv_at hl 0 rfl) ?_
    refine va_get (D := D) (ci := 2) (v := .int (st_i S 44)) (C := RX2) (T := TX2) (N := 3) hx hb hts ni_X2_giveBack_X2 hown hK hP 15 rw_Hist rfl 1 (by decide) (hts _ nf_X2_giveBack_f13) (fun _ h9 => h9) rfl dX2_giveBack_11 ?_
    obtain ⟨tJ_2, hT_8, h⟩ := ob_js h
    have kJ_2 : ∀ (sJ_2_0 : Int32) (S_3 : RSt) (_ : tJ_2 sJ_2_0 S_3 = some (r, S')) (H : Heap) (locs : List Loc) (ls : Array Slot), va_P D vwCl ((rw_w cy ad) S_3) H → va_D A ((rw_w cy ad) S_3) → va_S A s.heap H locs → lv_has ls 2 [(0, .ref (ad 15)), (1, .ref (ad u))] → W p l e rmX2_giveBack s m ([.ref (ad 15), .ref (ad u)] : List Value).toArray below meth c H locs 0 0 (km_Qz below D (rw_t cy) (rw_w cy ad) A ([.ref (ad 15), .ref (ad u)] : List Value).toArray s r S') (F0 m 28 ls [.int sJ_2_0, .ref (ad 15)]) := by
      intro sJ_2_0 S_3 h H locs ls hP hD hS hl
      rw [← hT_8] at h
      refine va_put (D := D) (ci := 2) (v := .int sJ_2_0) (ty := .int) (C := RX2) (T := TX2) (N := 3) hx hb hts ni_X2_giveBack_X2 tyX2 tyX2_ok nmX2 hown hK hP hD hS 15 rw_Hist rfl 1 (by decide) (hts _ nf_X2_giveBack_f13) (fun _ h9 => h9) rfl (by decide +kernel) rfl rfl (Nat.le_of_ble_eq_true rfl) dX2_giveBack_28 (fun H locs hP hD hS => ?_)
      have hP := st_ps rw_s_History_next hP
      have hD := st_ds rw_s_History_next hD
      refine lv_aload_n hx hb dX2_giveBack_31 rfl (lv_at hl 1 rfl) ?_
      refine lv_aload_n hx hb dX2_giveBack_32 rfl (lv_at hl 0 rfl) ?_
      refine va_get (D := D) (ci := 2) (v := .ref (ad 18)) (C := RX2) (T := TX2) (N := 3) hx hb hts ni_X2_giveBack_X2 hown hK hP 15 rw_Hist rfl 2 (by decide) (hts _ nf_X2_giveBack_f18) (fun _ h9 => h9) rfl dX2_giveBack_33 ?_
      refine lv_aload_n hx hb dX2_giveBack_36 rfl (lv_at hl 0 rfl) ?_
      refine va_get (D := D) (ci := 2) (v := .int (st_i (st_si S_3 44 sJ_2_0) 44)) (C := RX2) (T := TX2) (N := 3) hx hb hts ni_X2_giveBack_X2 hown hK hP 15 rw_Hist rfl 1 (by decide) (hts _ nf_X2_giveBack_f13) (fun _ h9 => h9) rfl dX2_giveBack_37 ?_
      obtain ⟨hv_4, h⟩ := ob_in_s h
      refine va_aldq hx hb hK hP 18 3 rw_kept rfl hv_4 dX2_giveBack_40 ?_
      refine W.eq (g2 := F0 m 41 ls [.ref (ad (3 + (st_i (st_si S_3 44 sJ_2_0) 44).toNatClampNeg)), .ref (ad u)]) rfl ?_
      obtain ⟨S_7, hc_5, h⟩ := ob_1s h
      refine km_cVv (As := [.ref (ad (3 + (st_i (st_si S_3 44 sJ_2_0) 44).toNatClampNeg))]) (rest := []) C (kX0_copyFrom hEE hu (vp_lt3 hv_4) hc_5) (cwV 1 hts gX2_giveBack_X0_copyFrom rfl rfl rfl (by decide +kernel) ⟨(Nat.le_of_ble_eq_true rfl), (Nat.le_of_ble_eq_true rfl)⟩) (rw_Book hu) rfl rfl rfl hP hD hS hl.1 rfl (Nat.le_of_ble_eq_true rfl) dX2_giveBack_41 (fun H locs hP hD hS => ?_)
      refine lv_aload_n hx hb dX2_giveBack_44 rfl (lv_at hl 0 rfl) ?_
      refine lv_dup hx hb dX2_giveBack_45 rfl ?_
      refine va_get (D := D) (ci := 2) (v := .int (st_i S_7 43)) (C := RX2) (T := TX2) (N := 3) hx hb hts ni_X2_giveBack_X2 hown hK hP 15 rw_Hist rfl 0 (by decide) (hts _ nf_X2_giveBack_f7) (fun _ h9 => h9) rfl dX2_giveBack_46 ?_
      refine lv_iconst (v := 1) hx hb dX2_giveBack_49 (by decide) ?_
      refine lv_isub hx hb dX2_giveBack_50 ?_
      refine va_put (D := D) (ci := 2) (v := .int ((st_i S_7 43) - (1 : Int32))) (ty := .int) (C := RX2) (T := TX2) (N := 3) hx hb hts ni_X2_giveBack_X2 tyX2 tyX2_ok nmX2 hown hK hP hD hS 15 rw_Hist rfl 0 (by decide) (hts _ nf_X2_giveBack_f7) (fun _ h9 => h9) rfl (by decide +kernel) rfl rfl (Nat.le_of_ble_eq_true rfl) dX2_giveBack_51 (fun H locs hP hD hS => ?_)
      have hP := st_ps rw_s_History_count hP
      have hD := st_ds rw_s_History_count hD
      refine lv_iconst (v := 1) hx hb dX2_giveBack_54 (by decide) ?_
      obtain ⟨rfl, rfl⟩ := ob_w h
      exact km_zret C (by decide) hP hD hS dX2_giveBack_55
    refine lv_if_le (tgt := 26) hx hb dX2_giveBack_14 (by decide) (fun c_9 => ?_) (fun c_9 => ?_)
    · have h := ob_t c_9 h
      refine lv_bipush (v := 9) hx hb dX2_giveBack_26 (by decide) ?_
      exact kJ_2 _ _ h _ _ _ hP hD hS (lv_sub hl [0, 1] rfl)
    · have h := ob_f c_9 h
      refine lv_aload_n hx hb dX2_giveBack_17 rfl (lv_at hl 0 rfl) ?_
      refine va_get (D := D) (ci := 2) (v := .int (st_i S 44)) (C := RX2) (T := TX2) (N := 3) hx hb hts ni_X2_giveBack_X2 hown hK hP 15 rw_Hist rfl 1 (by decide) (hts _ nf_X2_giveBack_f13) (fun _ h9 => h9) rfl dX2_giveBack_18 ?_
      refine lv_iconst (v := 1) hx hb dX2_giveBack_21 (by decide) ?_
      refine lv_isub hx hb dX2_giveBack_22 ?_
      refine lv_goto (tgt := 28) hx hb dX2_giveBack_23 (by decide) ?_
      exact kJ_2 _ _ h _ _ _ hP hD hS (lv_sub hl [0, 1] rfl)
  · have h := ob_t c_1 h
    refine lv_iconst (v := 0) hx hb dX2_giveBack_7 (by decide) ?_
    obtain ⟨rfl, rfl⟩ := ob_w h
    exact km_zret C (by decide) hP hD hS dX2_giveBack_8
