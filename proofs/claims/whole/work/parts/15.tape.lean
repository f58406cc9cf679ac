def fX3_hasRoom (x1 : Int32) (S : RSt) : Option (Int32 × RSt) := (if (540 : Int32) < ((st_i S 45) + x1) then (some ((0 : Int32), S)) else (some ((1 : Int32), S)))
abbrev rmX3_hasRoom : Room := { frames := 0, cells := 0, slots := 0, locals := 0 }
theorem nf_X3_hasRoom_f22 : Cond.fieldLink RX3 22 "RepeatIndex$Tape" "length" "I" ∈ wsX3_hasRoom := by decide +kernel
theorem ni_X3_hasRoom_X3 : ∀ w ∈ u_ws RX3 TX3 11, w ∈ wsX3_hasRoom := by decide +kernel
set_option maxHeartbeats 4000000 in
set_option maxRecDepth 100000 in
theorem kX3_hasRoom {l : Launch} {D : va_G} {cy : Nat → ClassId} {ad : Nat → Nat} {E : ke_T} (hEE : km_E E) {x1 : Int32} {S : RSt} {r : Int32} {S' : RSt} (h : fX3_hasRoom x1 S = some (r, S')) : km_z l D (rw_t cy) (rw_w cy ad) E yX3_hasRoom wsX3_hasRoom rmX3_hasRoom [.ref (ad 16), .int x1] S r S' := by
  refine km_z_in (cc := cX3_hasRoom) (nL := 2) hEE (by decide) rfl (Nat.le_of_ble_eq_true rfl) ?_
  intro p e s m below meth c A H ls C hP hD hS hl
  have C : km_C p s m _ meth c cX3_hasRoom 2 RX3 wsX3_hasRoom (some .boolean) D (rw_t cy) E A := C
  obtain ⟨⟨hx, hb, hml, hown, hts⟩, hr, hlk, hK, hA, hE, hEE⟩ := id C
  have hl : lv_has ls 2 [(0, .ref (ad 16)), (1, .int x1)] := hl
  unfold fX3_hasRoom at h
  refine lv_aload_n hx hb dX3_hasRoom_0 rfl (lv_at hl 0 rfl) ?_
  refine va_get (D := D) (ci := 3) (v := .int (st_i S 45)) (C := RX3) (T := TX3) (N := 11) hx hb hts ni_X3_hasRoom_X3 hown hK hP 16 rw_Tape rfl 0 (by decide) (hts _ nf_X3_hasRoom_f22) (fun _ h9 => h9) rfl dX3_hasRoom_1 ?_
  refine lv_iload_n hx hb dX3_hasRoom_4 rfl (lv_at hl 1 rfl) ?_
  refine lv_iadd hx hb dX3_hasRoom_5 ?_
  refine lv_sipush (v := 540) hx hb dX3_hasRoom_6 (by decide) ?_
  refine lv_icmp_gt (tgt := 16) hx hb dX3_hasRoom_9 (by decide) (fun c_1 => ?_) (fun c_1 => ?_)
  · have h := ob_t c_1 h
    refine lv_iconst (v := 0) hx hb dX3_hasRoom_16 (by decide) ?_
    obtain ⟨rfl, rfl⟩ := ob_w h
    exact km_zret C (by decide) hP hD hS dX3_hasRoom_17
  · have h := ob_f c_1 h
    refine lv_iconst (v := 1) hx hb dX3_hasRoom_12 (by decide) ?_
    refine lv_goto (tgt := 17) hx hb dX3_hasRoom_13 (by decide) ?_
    obtain ⟨rfl, rfl⟩ := ob_w h
    exact km_zret C (by decide) hP hD hS dX3_hasRoom_17
def fX3_addNumber_L3 : Nat → Int32 → Int32 → RSt → Option (RSt)
  | 0, _, _, _ => none
  | n + 1, x1, x2, S => (if x2 < 0 then (some S) else (ob_2 (fX3_hasRoom (1 : Int32) S) fun r_3 S_4 => (if r_3 = 0 then (fX3_addNumber_L3 n x1 (x2 + (-8 : Int32)) S_4) else (ob_in (st_i S_4 45) 540 (fX3_addNumber_L3 n x1 (x2 + (-8 : Int32)) (st_si (st_sa S_4 112 (st_i S_4 45).toNatClampNeg (vp_nar .byte ((x1 >>> (x2 &&& 31)).toInt8.toInt32))) 45 ((st_i (st_sa S_4 112 (st_i S_4 45).toNatClampNeg (vp_nar .byte ((x1 >>> (x2 &&& 31)).toInt8.toInt32))) 45) + (1 : Int32))))))))
def fX3_addNumber (x1 : Int32) (S : RSt) : Option (RSt) := (ob_1 (fX3_addNumber_L3 1000 x1 (24 : Int32) S) fun S_9 => (some S_9))
abbrev rmX3_addNumber : Room := { frames := 1, cells := 0, slots := 0, locals := 21 }
theorem nf_X3_addNumber_f18 : Cond.fieldLink RX3 18 "RepeatIndex$Tape" "bytes" "[B" ∈ wsX3_addNumber := by decide +kernel
theorem ni_X3_addNumber_X3 : ∀ w ∈ u_ws RX3 TX3 11, w ∈ wsX3_addNumber := by decide +kernel
theorem nf_X3_addNumber_f22 : Cond.fieldLink RX3 22 "RepeatIndex$Tape" "length" "I" ∈ wsX3_addNumber := by decide +kernel
set_option maxHeartbeats 4000000 in
set_option maxRecDepth 100000 in
theorem kX3_addNumber_L3 {l : Launch} {D : va_G} {cy : Nat → ClassId} {ad : Nat → Nat} {E : ke_T} {p : Program} {e : Env} {s : State} {m : MethodId} {args : Array Value} {below : List Frame} {meth : Method} {c : Code} {A : Nat → Prop} {Q : State → Prop} (C : km_C p s m args meth c cX3_addNumber 3 RX3 wsX3_addNumber none D (rw_t cy) E A) : ∀ (n : Nat) (x1 : Int32) (x2 : Int32) (S : RSt) (S' : RSt) (h : fX3_addNumber_L3 n x1 x2 S = some S') {H : Heap} {locs : List Loc} {ls : Array Slot} (hP : va_P D vwCl ((rw_w cy ad) S) H) (hD : va_D A ((rw_w cy ad) S)) (hS : va_S A s.heap H locs) (hl : lv_has ls 3 [(0, .ref (ad 16)), (1, .int x1), (2, .int x2)]) (kx0 : ∀ (H : Heap) (locs : List Loc) (ls : Array Slot), va_P D vwCl ((rw_w cy ad) S') H → va_D A ((rw_w cy ad) S') → va_S A s.heap H locs → lv_has ls 3 [] → W p l e rmX3_addNumber s m args below meth c H locs 0 0 Q (F0 m 44 ls [])), W p l e rmX3_addNumber s m args below meth c H locs 0 0 Q (F0 m 3 ls []) := by
  obtain ⟨⟨hx, hb, hml, hown, hts⟩, hr, hlk, hK, hA, hE, hEE⟩ := id C
  intro n
  induction n with
  | zero =>
    intro x1 x2 S S' h
    rw [fX3_addNumber_L3] at h
    cases h
  | succ n ih =>
    intro x1 x2 S S' h H locs ls hP hD hS hl kx0
    rw [fX3_addNumber_L3] at h
    refine lv_iload_n hx hb dX3_addNumber_3 rfl (lv_at hl 2 rfl) ?_
    refine lv_if_lt (tgt := 44) hx hb dX3_addNumber_4 (by decide) (fun c_1 => ?_) (fun c_1 => ?_)
    · have h := ob_t c_1 h
      cases h
      exact kx0 _ _ _ hP hD hS (lv_sub hl [] rfl)
    · have h := ob_f c_1 h
      refine lv_aload_n hx hb dX3_addNumber_7 rfl (lv_at hl 0 rfl) ?_
      refine lv_iconst (v := 1) hx hb dX3_addNumber_8 (by decide) ?_
      obtain ⟨r_3, S_4, hc_2, h⟩ := ob_2s h
      refine km_cVz (As := [.int (1 : Int32)]) (rest := []) C (kX3_hasRoom hEE hc_2) (cwV 1 hts gX3_addNumber_X3_hasRoom rfl rfl rfl (by decide +kernel) ⟨(Nat.le_of_ble_eq_true rfl), (Nat.le_of_ble_eq_true rfl)⟩) rw_Tape rfl rfl rfl hP hD hS hl.1 rfl (Nat.le_of_ble_eq_true rfl) dX3_addNumber_9 (fun H locs hP hD hS hz_5 => ?_)
      refine lv_if_eq (tgt := 38) hx hb dX3_addNumber_12 (by decide) (fun c_6 => ?_) (fun c_6 => ?_)
      · have h := ob_t c_6 h
        refine lv_iinc (v := x2 + (-8 : Int32)) (lv' := [(2, .int (x2 + (-8 : Int32))), (0, .ref (ad 16)), (1, .int x1)]) hx hb dX3_addNumber_38 hl (k := 2) rfl (congrArg (fun z => x2 + z) (by decide)) (by decide) rfl (fun ls hl => ?_)
        refine lv_goto (tgt := 3) hx hb dX3_addNumber_41 (by decide) ?_
        exact ih _ _ _ _ h hP hD hS (lv_sub hl [1, 2, 0] rfl) kx0
      · have h := ob_f c_6 h
        refine lv_aload_n hx hb dX3_addNumber_15 rfl (lv_at hl 0 rfl) ?_
        refine va_get (D := D) (ci := 3) (v := .ref (ad 155)) (C := RX3) (T := TX3) (N := 11) hx hb hts ni_X3_addNumber_X3 hown hK hP 16 rw_Tape rfl 5 (by decide) (hts _ nf_X3_addNumber_f18) (fun _ h9 => h9) rfl dX3_addNumber_16 ?_
        refine lv_aload_n hx hb dX3_addNumber_19 rfl (lv_at hl 0 rfl) ?_
        refine va_get (D := D) (ci := 3) (v := .int (st_i S_4 45)) (C := RX3) (T := TX3) (N := 11) hx hb hts ni_X3_addNumber_X3 hown hK hP 16 rw_Tape rfl 0 (by decide) (hts _ nf_X3_addNumber_f22) (fun _ h9 => h9) rfl dX3_addNumber_20 ?_
        refine lv_iload_n hx hb dX3_addNumber_23 rfl (lv_at hl 1 rfl) ?_
        refine lv_iload_n hx hb dX3_addNumber_24 rfl (lv_at hl 2 rfl) ?_
        refine lv_ishr hx hb dX3_addNumber_25 ?_
        refine lv_i2b hx hb dX3_addNumber_26 rfl ?_
        obtain ⟨hv_7, h⟩ := ob_in_s h
        refine va_bast hx hb hK hP hD hS 155 2 rw_bytes rfl hv_7 dX3_addNumber_27 (fun H locs hP hD hS => ?_)
        have hP := st_ps rw_s_bytes hP
        have hD := st_ds rw_s_bytes hD
        refine lv_aload_n hx hb dX3_addNumber_28 rfl (lv_at hl 0 rfl) ?_
        refine lv_dup hx hb dX3_addNumber_29 rfl ?_
        refine va_get (D := D) (ci := 3) (v := .int (st_i (st_sa S_4 112 (st_i S_4 45).toNatClampNeg (vp_nar .byte ((x1 >>> (x2 &&& 31)).toInt8.toInt32))) 45)) (C := RX3) (T := TX3) (N := 11) hx hb hts ni_X3_addNumber_X3 hown hK hP 16 rw_Tape rfl 0 (by decide) (hts _ nf_X3_addNumber_f22) (fun _ h9 => h9) rfl dX3_addNumber_30 ?_
        refine lv_iconst (v := 1) hx hb dX3_addNumber_33 (by decide) ?_
        refine lv_iadd hx hb dX3_addNumber_34 ?_
        refine va_put (D := D) (ci := 3) (v := .int ((st_i (st_sa S_4 112 (st_i S_4 45).toNatClampNeg (vp_nar .byte ((x1 >>> (x2 &&& 31)).toInt8.toInt32))) 45) + (1 : Int32))) (ty := .int) (C := RX3) (T := TX3) (N := 11) hx hb hts ni_X3_addNumber_X3 tyX3 tyX3_ok nmX3 hown hK hP hD hS 16 rw_Tape rfl 0 (by decide) (hts _ nf_X3_addNumber_f22) (fun _ h9 => h9) rfl (by decide +kernel) rfl rfl (Nat.le_of_ble_eq_true rfl) dX3_addNumber_35 (fun H locs hP hD hS => ?_)
        have hP := st_ps rw_s_Tape_length hP
        have hD := st_ds rw_s_Tape_length hD
        refine lv_iinc (v := x2 + (-8 : Int32)) (lv' := [(2, .int (x2 + (-8 : Int32))), (0, .ref (ad 16)), (1, .int x1)]) hx hb dX3_addNumber_38 hl (k := 2) rfl (congrArg (fun z => x2 + z) (by decide)) (by decide) rfl (fun ls hl => ?_)
        refine lv_goto (tgt := 3) hx hb dX3_addNumber_41 (by decide) ?_
        exact ih _ _ _ _ h hP hD hS (lv_sub hl [1, 2, 0] rfl) kx0
set_option maxHeartbeats 4000000 in
set_option maxRecDepth 100000 in
theorem kX3_addNumber {l : Launch} {D : va_G} {cy : Nat → ClassId} {ad : Nat → Nat} {E : ke_T} (hEE : km_E E) {x1 : Int32} {S : RSt} {S' : RSt} (h : fX3_addNumber x1 S = some S') : km_v l D (rw_t cy) (rw_w cy ad) E yX3_addNumber wsX3_addNumber rmX3_addNumber [.ref (ad 16), .int x1] S S' := by
  refine km_v_in (cc := cX3_addNumber) (nL := 3) hEE (by decide) rfl (Nat.le_of_ble_eq_true rfl) ?_
  intro p e s m below meth c A H ls C hP hD hS hl
  have C : km_C p s m _ meth c cX3_addNumber 3 RX3 wsX3_addNumber none D (rw_t cy) E A := C
  obtain ⟨⟨hx, hb, hml, hown, hts⟩, hr, hlk, hK, hA, hE, hEE⟩ := id C
  have hl : lv_has ls 3 [(0, .ref (ad 16)), (1, .int x1)] := hl
  unfold fX3_addNumber at h
  refine lv_bipush (v := 24) hx hb dX3_addNumber_0 (by decide) ?_
  refine lv_istore_n (lv' := [(2, .int (24 : Int32)), (0, .ref (ad 16)), (1, .int x1)]) hx hb dX3_addNumber_2 rfl hl (by decide) rfl (fun ls hl => ?_)
  obtain ⟨S_9, hq_8, h⟩ := ob_1s h
  refine kX3_addNumber_L3  C _ _ _ _ _ hq_8 hP hD hS (lv_sub hl [1, 2, 0] rfl) (fun H locs ls hP hD hS hl => ?_)
  obtain rfl := ob_v h
  exact km_vret C hP hD hS dX3_addNumber_44
def fX3_goOn (x1 : Int32) (S : RSt) : Option (Int32 × RSt) := (some ((0 : Int32), (st_si S 52 x1)))
abbrev rmX3_goOn : Room := { frames := 0, cells := 0, slots := 0, locals := 0 }
theorem nf_X3_goOn_f40 : Cond.fieldLink RX3 40 "RepeatIndex$Tape" "due" "I" ∈ wsX3_goOn := by decide +kernel
theorem ni_X3_goOn_X3 : ∀ w ∈ u_ws RX3 TX3 11, w ∈ wsX3_goOn := by decide +kernel
set_option maxHeartbeats 4000000 in
set_option maxRecDepth 100000 in
theorem kX3_goOn {l : Launch} {D : va_G} {cy : Nat → ClassId} {ad : Nat → Nat} {E : ke_T} (hEE : km_E E) {x1 : Int32} {S : RSt} {r : Int32} {S' : RSt} (h : fX3_goOn x1 S = some (r, S')) : km_i l D (rw_t cy) (rw_w cy ad) E yX3_goOn wsX3_goOn rmX3_goOn [.ref (ad 16), .int x1] S r S' := by
  refine km_i_in (cc := cX3_goOn) (nL := 2) hEE (by decide) rfl (Nat.le_of_ble_eq_true rfl) ?_
  intro p e s m below meth c A H ls C hP hD hS hl
  have C : km_C p s m _ meth c cX3_goOn 2 RX3 wsX3_goOn (some .int) D (rw_t cy) E A := C
  obtain ⟨⟨hx, hb, hml, hown, hts⟩, hr, hlk, hK, hA, hE, hEE⟩ := id C
  have hl : lv_has ls 2 [(0, .ref (ad 16)), (1, .int x1)] := hl
  unfold fX3_goOn at h
  refine lv_aload_n hx hb dX3_goOn_0 rfl (lv_at hl 0 rfl) ?_
  refine lv_iload_n hx hb dX3_goOn_1 rfl (lv_at hl 1 rfl) ?_
  refine va_put (D := D) (ci := 3) (v := .int x1) (ty := .int) (C := RX3) (T := TX3) (N := 11) hx hb hts ni_X3_goOn_X3 tyX3 tyX3_ok nmX3 hown hK hP hD hS 16 rw_Tape rfl 9 (by decide) (hts _ nf_X3_goOn_f40) (fun _ h9 => h9) rfl (by decide +kernel) rfl rfl (Nat.le_of_ble_eq_true rfl) dX3_goOn_2 (fun H locs hP hD hS => ?_)
  have hP := st_ps rw_s_Tape_due hP
  have hD := st_ds rw_s_Tape_due hD
  refine lv_iconst (v := 0) hx hb dX3_goOn_5 (by decide) ?_
  obtain ⟨rfl, rfl⟩ := ob_w h
  exact km_iret C hP hD hS dX3_goOn_6
def fX3_takeHome (S : RSt) : Option (Int32 × RSt) := (if (st_i S (3 * 2 + 1)) < (6 : Int32) then (ob_2 (fX0_addHome 2 S) fun r_3 S_4 => (ob_2 (fX3_goOn (6 : Int32) S_4) fun r_6 S_7 => (some (r_6, S_7)))) else (some ((3 : Int32), S)))
abbrev rmX3_takeHome : Room := { frames := 1, cells := 0, slots := 0, locals := 21 }
theorem nf_X3_takeHome_f12 : Cond.fieldLink RX3 12 "RepeatIndex$Tape" "told" "LRepeatIndex$Book;" ∈ wsX3_takeHome := by decide +kernel
theorem ni_X3_takeHome_X3 : ∀ w ∈ u_ws RX3 TX3 11, w ∈ wsX3_takeHome := by decide +kernel
theorem nf_X3_takeHome_f81 : Cond.fieldLink RX3 81 "RepeatIndex$Book" "homes" "I" ∈ wsX3_takeHome := by decide +kernel
theorem ni_X3_takeHome_X0 : ∀ w ∈ u_ws RX0 TX0 5, w ∈ wsX3_takeHome := by decide +kernel
set_option maxHeartbeats 4000000 in
set_option maxRecDepth 100000 in
theorem kX3_takeHome {l : Launch} {D : va_G} {cy : Nat → ClassId} {ad : Nat → Nat} {E : ke_T} (hEE : km_E E) {S : RSt} {r : Int32} {S' : RSt} (h : fX3_takeHome S = some (r, S')) : km_i l D (rw_t cy) (rw_w cy ad) E yX3_takeHome wsX3_takeHome rmX3_takeHome [.ref (ad 16)] S r S' := by
  refine km_i_in (cc := cX3_takeHome) (nL := 1) hEE (by decide) rfl (Nat.le_of_ble_eq_true rfl) ?_
  intro p e s m below meth c A H ls C hP hD hS hl
  have C : km_C p s m _ meth c cX3_takeHome 1 RX3 wsX3_takeHome (some .int) D (rw_t cy) E A := C
  obtain ⟨⟨hx, hb, hml, hown, hts⟩, hr, hlk, hK, hA, hE, hEE⟩ := id C
  have hl : lv_has ls 1 [(0, .ref (ad 16))] := hl
  unfold fX3_takeHome at h
  refine lv_aload_n hx hb dX3_takeHome_0 rfl (lv_at hl 0 rfl) ?_
  refine va_get (D := D) (ci := 3) (v := .ref (ad 2)) (C := RX3) (T := TX3) (N := 11) hx hb hts ni_X3_takeHome_X3 hown hK hP 16 rw_Tape rfl 4 (by decide) (hts _ nf_X3_takeHome_f12) (fun _ h9 => h9) rfl dX3_takeHome_1 ?_
  refine va_get (D := D) (ci := 0) (v := .int (st_i S (3 * 2 + 1))) (C := RX0) (T := TX0) (N := 5) hx hb hts ni_X3_takeHome_X0 hown hK hP 2 (rw_Book (by decide : 2 < 13)) rfl 1 (by decide) (hts _ nf_X3_takeHome_f81) (fun _ h9 => h9) rfl dX3_takeHome_4 ?_
  refine lv_bipush (v := 6) hx hb dX3_takeHome_7 (by decide) ?_
  refine lv_icmp_lt (tgt := 14) hx hb dX3_takeHome_9 (by decide) (fun c_1 => ?_) (fun c_1 => ?_)
  · have h := ob_t c_1 h
    refine lv_aload_n hx hb dX3_takeHome_14 rfl (lv_at hl 0 rfl) ?_
    refine va_get (D := D) (ci := 3) (v := .ref (ad 2)) (C := RX3) (T := TX3) (N := 11) hx hb hts ni_X3_takeHome_X3 hown hK hP 16 rw_Tape rfl 4 (by decide) (hts _ nf_X3_takeHome_f12) (fun _ h9 => h9) rfl dX3_takeHome_15 ?_
    obtain ⟨r_3, S_4, hc_2, h⟩ := ob_2s h
    refine km_cVi (As := []) (rest := []) C (kX0_addHome hEE (by decide : 2 < 13) hc_2) (cwV 0 hts gX3_takeHome_X0_addHome rfl rfl rfl (by decide +kernel) ⟨(Nat.le_of_ble_eq_true rfl), (Nat.le_of_ble_eq_true rfl)⟩) (rw_Book (by decide : 2 < 13)) rfl rfl rfl hP hD hS hl.1 rfl (Nat.le_of_ble_eq_true rfl) dX3_takeHome_18 (fun H locs hP hD hS => ?_)
    refine lv_pop hx hb dX3_takeHome_21 rfl ?_
    refine lv_aload_n hx hb dX3_takeHome_22 rfl (lv_at hl 0 rfl) ?_
    refine lv_bipush (v := 6) hx hb dX3_takeHome_23 (by decide) ?_
    obtain ⟨r_6, S_7, hc_5, h⟩ := ob_2s h
    refine km_cVi (As := [.int (6 : Int32)]) (rest := []) C (kX3_goOn hEE hc_5) (cwV 1 hts gX3_takeHome_X3_goOn rfl rfl rfl (by decide +kernel) ⟨(Nat.le_of_ble_eq_true rfl), (Nat.le_of_ble_eq_true rfl)⟩) rw_Tape rfl rfl rfl hP hD hS hl.1 rfl (Nat.le_of_ble_eq_true rfl) dX3_takeHome_25 (fun H locs hP hD hS => ?_)
    obtain ⟨rfl, rfl⟩ := ob_w h
    exact km_iret C hP hD hS dX3_takeHome_28
  · have h := ob_f c_1 h
    refine lv_iconst (v := 3) hx hb dX3_takeHome_12 (by decide) ?_
    obtain ⟨rfl, rfl⟩ := ob_w h
    exact km_iret C hP hD hS dX3_takeHome_13
def fX3_takeSemicolon (S : RSt) : Option (Int32 × RSt) := (if (st_i S 50) = (3 : Int32) then (ob_2 (fX3_goOn (0 : Int32) (st_si S 47 ((st_i S 47) + (1 : Int32)))) fun r_3 S_4 => (some (r_3, S_4))) else (some ((1 : Int32), S)))
abbrev rmX3_takeSemicolon : Room := { frames := 1, cells := 0, slots := 0, locals := 21 }
theorem nf_X3_takeSemicolon_f46 : Cond.fieldLink RX3 46 "RepeatIndex$Tape" "kind" "I" ∈ wsX3_takeSemicolon := by decide +kernel
theorem ni_X3_takeSemicolon_X3 : ∀ w ∈ u_ws RX3 TX3 11, w ∈ wsX3_takeSemicolon := by decide +kernel
theorem nf_X3_takeSemicolon_f34 : Cond.fieldLink RX3 34 "RepeatIndex$Tape" "lines" "I" ∈ wsX3_takeSemicolon := by decide +kernel
set_option maxHeartbeats 4000000 in
set_option maxRecDepth 100000 in
theorem kX3_takeSemicolon {l : Launch} {D : va_G} {cy : Nat → ClassId} {ad : Nat → Nat} {E : ke_T} (hEE : km_E E) {S : RSt} {r : Int32} {S' : RSt} (h : fX3_takeSemicolon S = some (r, S')) : km_i l D (rw_t cy) (rw_w cy ad) E yX3_takeSemicolon wsX3_takeSemicolon rmX3_takeSemicolon [.ref (ad 16)] S r S' := by
  refine km_i_in (cc := cX3_takeSemicolon) (nL := 1) hEE (by decide) rfl (Nat.le_of_ble_eq_true rfl) ?_
  intro p e s m below meth c A H ls C hP hD hS hl
  have C : km_C p s m _ meth c cX3_takeSemicolon 1 RX3 wsX3_takeSemicolon (some .int) D (rw_t cy) E A := C
  obtain ⟨⟨hx, hb, hml, hown, hts⟩, hr, hlk, hK, hA, hE, hEE⟩ := id C
  have hl : lv_has ls 1 [(0, .ref (ad 16))] := hl
  unfold fX3_takeSemicolon at h
  refine lv_aload_n hx hb dX3_takeSemicolon_0 rfl (lv_at hl 0 rfl) ?_
  refine va_get (D := D) (ci := 3) (v := .int (st_i S 50)) (C := RX3) (T := TX3) (N := 11) hx hb hts ni_X3_takeSemicolon_X3 hown hK hP 16 rw_Tape rfl 7 (by decide) (hts _ nf_X3_takeSemicolon_f46) (fun _ h9 => h9) rfl dX3_takeSemicolon_1 ?_
  refine lv_iconst (v := 3) hx hb dX3_takeSemicolon_4 (by decide) ?_
  refine lv_icmp_eq (tgt := 10) hx hb dX3_takeSemicolon_5 (by decide) (fun c_1 => ?_) (fun c_1 => ?_)
  · have h := ob_t c_1 h
    refine lv_aload_n hx hb dX3_takeSemicolon_10 rfl (lv_at hl 0 rfl) ?_
    refine lv_dup hx hb dX3_takeSemicolon_11 rfl ?_
    refine va_get (D := D) (ci := 3) (v := .int (st_i S 47)) (C := RX3) (T := TX3) (N := 11) hx hb hts ni_X3_takeSemicolon_X3 hown hK hP 16 rw_Tape rfl 2 (by decide) (hts _ nf_X3_takeSemicolon_f34) (fun _ h9 => h9) rfl dX3_takeSemicolon_12 ?_
    refine lv_iconst (v := 1) hx hb dX3_takeSemicolon_15 (by decide) ?_
    refine lv_iadd hx hb dX3_takeSemicolon_16 ?_
    refine va_put (D := D) (ci := 3) (v := .int ((st_i S 47) + (1 : Int32))) (ty := .int) (C := RX3) (T := TX3) (N := 11) hx hb hts ni_X3_takeSemicolon_X3 tyX3 tyX3_ok nmX3 hown hK hP hD hS 16 rw_Tape rfl 2 (by decide) (hts _ nf_X3_takeSemicolon_f34) (fun _ h9 => h9) rfl (by decide +kernel) rfl rfl (Nat.le_of_ble_eq_true rfl) dX3_takeSemicolon_17 (fun H locs hP hD hS => ?_)
    have hP := st_ps rw_s_Tape_lines hP
    have hD := st_ds rw_s_Tape_lines hD
    refine lv_aload_n hx hb dX3_takeSemicolon_20 rfl (lv_at hl 0 rfl) ?_
    refine lv_iconst (v := 0) hx hb dX3_takeSemicolon_21 (by decide) ?_
    obtain ⟨r_3, S_4, hc_2, h⟩ := ob_2s h
    refine km_cVi (As := [.int (0 : Int32)]) (rest := []) C (kX3_goOn hEE hc_2) (cwV 1 hts gX3_takeSemicolon_X3_goOn rfl rfl rfl (by decide +kernel) ⟨(Nat.le_of_ble_eq_true rfl), (Nat.le_of_ble_eq_true rfl)⟩) rw_Tape rfl rfl rfl hP hD hS hl.1 rfl (Nat.le_of_ble_eq_true rfl) dX3_takeSemicolon_22 (fun H locs hP hD hS => ?_)
    obtain ⟨rfl, rfl⟩ := ob_w h
    exact km_iret C hP hD hS dX3_takeSemicolon_25
  · have h := ob_f c_1 h
    refine lv_iconst (v := 1) hx hb dX3_takeSemicolon_8 (by decide) ?_
    obtain ⟨rfl, rfl⟩ := ob_w h
    exact km_iret C hP hD hS dX3_takeSemicolon_9
def fX3_takeMonths (S : RSt) : Option (Int32 × RSt) := (if (st_i S 51) < (2 : Int32) then (some ((2 : Int32), S)) else (if (st_i S 51) ≤ (8 : Int32) then (ob_2 (fX3_goOn (6 : Int32) (st_si S (3 * 2) (st_i S 51))) fun r_4 S_5 => (some (r_4, S_5))) else (some ((2 : Int32), S))))
abbrev rmX3_takeMonths : Room := { frames := 1, cells := 0, slots := 0, locals := 21 }
theorem nf_X3_takeMonths_f93 : Cond.fieldLink RX3 93 "RepeatIndex$Tape" "value" "I" ∈ wsX3_takeMonths := by decide +kernel
theorem ni_X3_takeMonths_X3 : ∀ w ∈ u_ws RX3 TX3 11, w ∈ wsX3_takeMonths := by decide +kernel
theorem nf_X3_takeMonths_f12 : Cond.fieldLink RX3 12 "RepeatIndex$Tape" "told" "LRepeatIndex$Book;" ∈ wsX3_takeMonths := by decide +kernel
theorem nf_X3_takeMonths_f96 : Cond.fieldLink RX3 96 "RepeatIndex$Book" "months" "I" ∈ wsX3_takeMonths := by decide +kernel
theorem ni_X3_takeMonths_X0 : ∀ w ∈ u_ws RX0 TX0 5, w ∈ wsX3_takeMonths := by decide +kernel
set_option maxHeartbeats 4000000 in
set_option maxRecDepth 100000 in
theorem kX3_takeMonths {l : Launch} {D : va_G} {cy : Nat → ClassId} {ad : Nat → Nat} {E : ke_T} (hEE : km_E E) {S : RSt} {r : Int32} {S' : RSt} (h : fX3_takeMonths S = some (r, S')) : km_i l D (rw_t cy) (rw_w cy ad) E yX3_takeMonths wsX3_takeMonths rmX3_takeMonths [.ref (ad 16)] S r S' := by
  refine km_i_in (cc := cX3_takeMonths) (nL := 1) hEE (by decide) rfl (Nat.le_of_ble_eq_true rfl) ?_
  intro p e s m below meth c A H ls C hP hD hS hl
  have C : km_C p s m _ meth c cX3_takeMonths 1 RX3 wsX3_takeMonths (some .int) D (rw_t cy) E A := C
  obtain ⟨⟨hx, hb, hml, hown, hts⟩, hr, hlk, hK, hA, hE, hEE⟩ := id C
  have hl : lv_has ls 1 [(0, .ref (ad 16))] := hl
  unfold fX3_takeMonths at h
  refine lv_aload_n hx hb dX3_takeMonths_0 rfl (lv_at hl 0 rfl) ?_
  refine va_get (D := D) (ci := 3) (v := .int (st_i S 51)) (C := RX3) (T := TX3) (N := 11) hx hb hts ni_X3_takeMonths_X3 hown hK hP 16 rw_Tape rfl 8 (by decide) (hts _ nf_X3_takeMonths_f93) (fun _ h9 => h9) rfl dX3_takeMonths_1 ?_
  refine lv_iconst (v := 2) hx hb dX3_takeMonths_4 (by decide) ?_
  refine lv_icmp_lt (tgt := 17) hx hb dX3_takeMonths_5 (by decide) (fun c_1 => ?_) (fun c_1 => ?_)
  · have h := ob_t c_1 h
    refine lv_iconst (v := 2) hx hb dX3_takeMonths_17 (by decide) ?_
    obtain ⟨rfl, rfl⟩ := ob_w h
    exact km_iret C hP hD hS dX3_takeMonths_18
  · have h := ob_f c_1 h
    refine lv_aload_n hx hb dX3_takeMonths_8 rfl (lv_at hl 0 rfl) ?_
    refine va_get (D := D) (ci := 3) (v := .int (st_i S 51)) (C := RX3) (T := TX3) (N := 11) hx hb hts ni_X3_takeMonths_X3 hown hK hP 16 rw_Tape rfl 8 (by decide) (hts _ nf_X3_takeMonths_f93) (fun _ h9 => h9) rfl dX3_takeMonths_9 ?_
    refine lv_bipush (v := 8) hx hb dX3_takeMonths_12 (by decide) ?_
    refine lv_icmp_le (tgt := 19) hx hb dX3_takeMonths_14 (by decide) (fun c_2 => ?_) (fun c_2 => ?_)
    · have h := ob_t c_2 h
      refine lv_aload_n hx hb dX3_takeMonths_19 rfl (lv_at hl 0 rfl) ?_
      refine va_get (D := D) (ci := 3) (v := .ref (ad 2)) (C := RX3) (T := TX3) (N := 11) hx hb hts ni_X3_takeMonths_X3 hown hK hP 16 rw_Tape rfl 4 (by decide) (hts _ nf_X3_takeMonths_f12) (fun _ h9 => h9) rfl dX3_takeMonths_20 ?_
      refine lv_aload_n hx hb dX3_takeMonths_23 rfl (lv_at hl 0 rfl) ?_
      refine va_get (D := D) (ci := 3) (v := .int (st_i S 51)) (C := RX3) (T := TX3) (N := 11) hx hb hts ni_X3_takeMonths_X3 hown hK hP 16 rw_Tape rfl 8 (by decide) (hts _ nf_X3_takeMonths_f93) (fun _ h9 => h9) rfl dX3_takeMonths_24 ?_
      refine va_put (D := D) (ci := 0) (v := .int (st_i S 51)) (ty := .int) (C := RX0) (T := TX0) (N := 5) hx hb hts ni_X3_takeMonths_X0 tyX0 tyX0_ok nmX0 hown hK hP hD hS 2 (rw_Book (by decide : 2 < 13)) rfl 0 (by decide) (hts _ nf_X3_takeMonths_f96) (fun _ h9 => h9) rfl (by decide +kernel) rfl rfl (Nat.le_of_ble_eq_true rfl) dX3_takeMonths_27 (fun H locs hP hD hS => ?_)
      have hP := st_ps (rw_s_Book_months (by decide : 2 < 13)) hP
      have hD := st_ds (rw_s_Book_months (by decide : 2 < 13)) hD
      refine lv_aload_n hx hb dX3_takeMonths_30 rfl (lv_at hl 0 rfl) ?_
      refine lv_bipush (v := 6) hx hb dX3_takeMonths_31 (by decide) ?_
      obtain ⟨r_4, S_5, hc_3, h⟩ := ob_2s h
      refine km_cVi (As := [.int (6 : Int32)]) (rest := []) C (kX3_goOn hEE hc_3) (cwV 1 hts gX3_takeMonths_X3_goOn rfl rfl rfl (by decide +kernel) ⟨(Nat.le_of_ble_eq_true rfl), (Nat.le_of_ble_eq_true rfl)⟩) rw_Tape rfl rfl rfl hP hD hS hl.1 rfl (Nat.le_of_ble_eq_true rfl) dX3_takeMonths_33 (fun H locs hP hD hS => ?_)
      obtain ⟨rfl, rfl⟩ := ob_w h
      exact km_iret C hP hD hS dX3_takeMonths_36
    · have h := ob_f c_2 h
      refine lv_iconst (v := 2) hx hb dX3_takeMonths_17 (by decide) ?_
      obtain ⟨rfl, rfl⟩ := ob_w h
      exact km_iret C hP hD hS dX3_takeMonths_18
def fX3_takeGap (S : RSt) : Option (Int32 × RSt) := (ob_2 (fX0_hasGap 2 (st_i S 51) S) fun r_2 S_3 => (if r_2 = 0 then (some ((2 : Int32), S_3)) else (ob_in (st_i S_3 51) 8 (if (st_a S_3 (2 * 2) (st_i S_3 51).toNatClampNeg) = 0 then (ob_2 (fX3_goOn (3 : Int32) (st_si S_3 53 (st_i S_3 51))) fun r_9 S_10 => (some (r_9, S_10))) else (some ((2 : Int32), S_3))))))
abbrev rmX3_takeGap : Room := { frames := 1, cells := 0, slots := 0, locals := 21 }
theorem nf_X3_takeGap_f12 : Cond.fieldLink RX3 12 "RepeatIndex$Tape" "told" "LRepeatIndex$Book;" ∈ wsX3_takeGap := by decide +kernel
theorem ni_X3_takeGap_X3 : ∀ w ∈ u_ws RX3 TX3 11, w ∈ wsX3_takeGap := by decide +kernel
theorem nf_X3_takeGap_f93 : Cond.fieldLink RX3 93 "RepeatIndex$Tape" "value" "I" ∈ wsX3_takeGap := by decide +kernel
theorem nf_X3_takeGap_f102 : Cond.fieldLink RX3 102 "RepeatIndex$Book" "weights" "[I" ∈ wsX3_takeGap := by decide +kernel
theorem ni_X3_takeGap_X0 : ∀ w ∈ u_ws RX0 TX0 5, w ∈ wsX3_takeGap := by decide +kernel
theorem nf_X3_takeGap_f106 : Cond.fieldLink RX3 106 "RepeatIndex$Tape" "subject" "I" ∈ wsX3_takeGap := by decide +kernel
set_option maxHeartbeats 4000000 in
set_option maxRecDepth 100000 in
theorem kX3_takeGap {l : Launch} {D : va_G} {cy : Nat → ClassId} {ad : Nat → Nat} {E : ke_T} (hEE : km_E E) {S : RSt} {r : Int32} {S' : RSt} (h : fX3_takeGap S = some (r, S')) : km_i l D (rw_t cy) (rw_w cy ad) E yX3_takeGap wsX3_takeGap rmX3_takeGap [.ref (ad 16)] S r S' := by
  refine km_i_in (cc := cX3_takeGap) (nL := 1) hEE (by decide) rfl (Nat.le_of_ble_eq_true rfl) ?_
  intro p e s m below meth c A H ls C hP hD hS hl
  have C : km_C p s m _ meth c cX3_takeGap 1 RX3 wsX3_takeGap (some .int) D (rw_t cy) E A := C
  obtain ⟨⟨hx, hb, hml, hown, hts⟩, hr, hlk, hK, hA, hE, hEE⟩ := id C
  have hl : lv_has ls 1 [(0, .ref (ad 16))] := hl
  unfold fX3_takeGap at h
  refine lv_aload_n hx hb dX3_takeGap_0 rfl (lv_at hl 0 rfl) ?_
  refine va_get (D := D) (ci := 3) (v := .ref (ad 2)) (C := RX3) (T := TX3) (N := 11) hx hb hts ni_X3_takeGap_X3 hown hK hP 16 rw_Tape rfl 4 (by decide) (hts _ nf_X3_takeGap_f12) (fun _ h9 => h9) rfl dX3_takeGap_1 ?_
  refine lv_aload_n hx hb dX3_takeGap_4 rfl (lv_at hl 0 rfl) ?_
  refine va_get (D := D) (ci := 3) (v := .int (st_i S 51)) (C := RX3) (T := TX3) (N := 11) hx hb hts ni_X3_takeGap_X3 hown hK hP 16 rw_Tape rfl 8 (by decide) (hts _ nf_X3_takeGap_f93) (fun _ h9 => h9) rfl dX3_takeGap_5 ?_
  obtain ⟨r_2, S_3, hc_1, h⟩ := ob_2s h
  refine km_cVz (As := [.int (st_i S 51)]) (rest := []) C (kX0_hasGap hEE (by decide : 2 < 13) hc_1) (cwV 1 hts gX3_takeGap_X0_hasGap rfl rfl rfl (by decide +kernel) ⟨(Nat.le_of_ble_eq_true rfl), (Nat.le_of_ble_eq_true rfl)⟩) (rw_Book (by decide : 2 < 13)) rfl rfl rfl hP hD hS hl.1 rfl (Nat.le_of_ble_eq_true rfl) dX3_takeGap_8 (fun H locs hP hD hS hz_4 => ?_)
  refine lv_if_eq (tgt := 29) hx hb dX3_takeGap_11 (by decide) (fun c_5 => ?_) (fun c_5 => ?_)
  · have h := ob_t c_5 h
    refine lv_iconst (v := 2) hx hb dX3_takeGap_29 (by decide) ?_
    obtain ⟨rfl, rfl⟩ := ob_w h
    exact km_iret C hP hD hS dX3_takeGap_30
  · have h := ob_f c_5 h
    refine lv_aload_n hx hb dX3_takeGap_14 rfl (lv_at hl 0 rfl) ?_
    refine va_get (D := D) (ci := 3) (v := .ref (ad 2)) (C := RX3) (T := TX3) (N := 11) hx hb hts ni_X3_takeGap_X3 hown hK hP 16 rw_Tape rfl 4 (by decide) (hts _ nf_X3_takeGap_f12) (fun _ h9 => h9) rfl dX3_takeGap_15 ?_
    refine va_get (D := D) (ci := 0) (v := .ref (ad (23 + 2 * 2))) (C := RX0) (T := TX0) (N := 5) hx hb hts ni_X3_takeGap_X0 hown hK hP 2 (rw_Book (by decide : 2 < 13)) rfl 3 (by decide) (hts _ nf_X3_takeGap_f102) (fun _ h9 => h9) rfl dX3_takeGap_18 ?_
    refine lv_aload_n hx hb dX3_takeGap_21 rfl (lv_at hl 0 rfl) ?_
    refine va_get (D := D) (ci := 3) (v := .int (st_i S_3 51)) (C := RX3) (T := TX3) (N := 11) hx hb hts ni_X3_takeGap_X3 hown hK hP 16 rw_Tape rfl 8 (by decide) (hts _ nf_X3_takeGap_f93) (fun _ h9 => h9) rfl dX3_takeGap_22 ?_
    obtain ⟨hv_6, h⟩ := ob_in_s h
    refine va_iald hx hb hK hP (23 + 2 * 2) 0 (rw_weights (by decide : 2 < 13)) rfl hv_6 dX3_takeGap_25 ?_
    refine lv_if_eq (tgt := 31) hx hb dX3_takeGap_26 (by decide) (fun c_7 => ?_) (fun c_7 => ?_)
    · have h := ob_t c_7 h
      refine lv_aload_n hx hb dX3_takeGap_31 rfl (lv_at hl 0 rfl) ?_
      refine lv_aload_n hx hb dX3_takeGap_32 rfl (lv_at hl 0 rfl) ?_
      refine va_get (D := D) (ci := 3) (v := .int (st_i S_3 51)) (C := RX3) (T := TX3) (N := 11) hx hb hts ni_X3_takeGap_X3 hown hK hP 16 rw_Tape rfl 8 (by decide) (hts _ nf_X3_takeGap_f93) (fun _ h9 => h9) rfl dX3_takeGap_33 ?_
      refine va_put (D := D) (ci := 3) (v := .int (st_i S_3 51)) (ty := .int) (C := RX3) (T := TX3) (N := 11) hx hb hts ni_X3_takeGap_X3 tyX3 tyX3_ok nmX3 hown hK hP hD hS 16 rw_Tape rfl 10 (by decide) (hts _ nf_X3_takeGap_f106) (fun _ h9 => h9) rfl (by decide +kernel) rfl rfl (Nat.le_of_ble_eq_true rfl) dX3_takeGap_36 (fun H locs hP hD hS => ?_)
      have hP := st_ps rw_s_Tape_subject hP
      have hD := st_ds rw_s_Tape_subject hD
      refine lv_aload_n hx hb dX3_takeGap_39 rfl (lv_at hl 0 rfl) ?_
      refine lv_iconst (v := 3) hx hb dX3_takeGap_40 (by decide) ?_
      obtain ⟨r_9, S_10, hc_8, h⟩ := ob_2s h
      refine km_cVi (As := [.int (3 : Int32)]) (rest := []) C (kX3_goOn hEE hc_8) (cwV 1 hts gX3_takeGap_X3_goOn rfl rfl rfl (by decide +kernel) ⟨(Nat.le_of_ble_eq_true rfl), (Nat.le_of_ble_eq_true rfl)⟩) rw_Tape rfl rfl rfl hP hD hS hl.1 rfl (Nat.le_of_ble_eq_true rfl) dX3_takeGap_41 (fun H locs hP hD hS => ?_)
      obtain ⟨rfl, rfl⟩ := ob_w h
      exact km_iret C hP hD hS dX3_takeGap_44
    · have h := ob_f c_7 h
      refine lv_iconst (v := 2) hx hb dX3_takeGap_29 (by decide) ?_
      obtain ⟨rfl, rfl⟩ := ob_w h
      exact km_iret C hP hD hS dX3_takeGap_30
def fX3_takeWeight (S : RSt) : Option (Int32 × RSt) := (if (st_i S 51) < (1 : Int32) then (some ((2 : Int32), S)) else (if (3 : Int32) < (st_i S 51) then (some ((2 : Int32), S)) else (ob_2 (fX0_hasGap 2 (st_i S 53) S) fun r_4 S_5 => (if r_4 = 0 then (some ((2 : Int32), S_5)) else (ob_in (st_i S_5 53) 8 (ob_2 (fX3_goOn (6 : Int32) (st_sa S_5 (2 * 2) (st_i S_5 53).toNatClampNeg (st_i S_5 51))) fun r_10 S_11 => (some (r_10, S_11))))))))
abbrev rmX3_takeWeight : Room := { frames := 1, cells := 0, slots := 0, locals := 21 }
theorem nf_X3_takeWeight_f93 : Cond.fieldLink RX3 93 "RepeatIndex$Tape" "value" "I" ∈ wsX3_takeWeight := by decide +kernel
theorem ni_X3_takeWeight_X3 : ∀ w ∈ u_ws RX3 TX3 11, w ∈ wsX3_takeWeight := by decide +kernel
theorem nf_X3_takeWeight_f12 : Cond.fieldLink RX3 12 "RepeatIndex$Tape" "told" "LRepeatIndex$Book;" ∈ wsX3_takeWeight := by decide +kernel
theorem nf_X3_takeWeight_f106 : Cond.fieldLink RX3 106 "RepeatIndex$Tape" "subject" "I" ∈ wsX3_takeWeight := by decide +kernel
theorem nf_X3_takeWeight_f102 : Cond.fieldLink RX3 102 "RepeatIndex$Book" "weights" "[I" ∈ wsX3_takeWeight := by decide +kernel
theorem ni_X3_takeWeight_X0 : ∀ w ∈ u_ws RX0 TX0 5, w ∈ wsX3_takeWeight := by decide +kernel
set_option maxHeartbeats 4000000 in
set_option maxRecDepth 100000 in
theorem kX3_takeWeight {l : Launch} {D : va_G} {cy : Nat → ClassId} {ad : Nat → Nat} {E : ke_T} (hEE : km_E E) {S : RSt} {r : Int32} {S' : RSt} (h : fX3_takeWeight S = some (r, S')) : km_i l D (rw_t cy) (rw_w cy ad) E yX3_takeWeight wsX3_takeWeight rmX3_takeWeight [.ref (ad 16)] S r S' := by
  refine km_i_in (cc := cX3_takeWeight) (nL := 1) hEE (by decide) rfl (Nat.le_of_ble_eq_true rfl) ?_
  intro p e s m below meth c A H ls C hP hD hS hl
  have C : km_C p s m _ meth c cX3_takeWeight 1 RX3 wsX3_takeWeight (some .int) D (rw_t cy) E A := C
  obtain ⟨⟨hx, hb, hml, hown, hts⟩, hr, hlk, hK, hA, hE, hEE⟩ := id C
  have hl : lv_has ls 1 [(0, .ref (ad 16))] := hl
  unfold fX3_takeWeight at h
  refine lv_aload_n hx hb dX3_takeWeight_0 rfl (lv_at hl 0 rfl) ?_
  refine va_get (D := D) (ci := 3) (v := .int (st_i S 51)) (C := RX3) (T := TX3) (N := 11) hx hb hts ni_X3_takeWeight_X3 hown hK hP 16 rw_Tape rfl 8 (by decide) (hts _ nf_X3_takeWeight_f93) (fun _ h9 => h9) rfl dX3_takeWeight_1 ?_
  refine lv_iconst (v := 1) hx hb dX3_takeWeight_4 (by decide) ?_
  refine lv_icmp_lt (tgt := 30) hx hb dX3_takeWeight_5 (by decide) (fun c_1 => ?_) (fun c_1 => ?_)
  · have h := ob_t c_1 h
    refine lv_iconst (v := 2) hx hb dX3_takeWeight_30 (by decide) ?_
    obtain ⟨rfl, rfl⟩ := ob_w h
    exact km_iret C hP hD hS dX3_takeWeight_31
  · have h := ob_f c_1 h
    refine lv_aload_n hx hb dX3_takeWeight_8 rfl (lv_at hl 0 rfl) ?_
    refine va_get (D := D) (ci := 3) (v := .int (st_i S 51)) (C := RX3) (T := TX3) (N := 11) hx hb hts ni_X3_takeWeight_X3 hown hK hP 16 rw_Tape rfl 8 (by decide) (hts _ nf_X3_takeWeight_f93) (fun _ h9 => h9) rfl dX3_takeWeight_9 ?_
    refine lv_iconst (v := 3) hx hb dX3_takeWeight_12 (by decide) ?_
    refine lv_icmp_gt (tgt := 30) hx hb dX3_takeWeight_13 (by decide) (fun c_2 => ?_) (fun c_2 => ?_)
    · have h := ob_t c_2 h
      refine lv_iconst (v := 2) hx hb dX3_takeWeight_30 (by decide) ?_
      obtain ⟨rfl, rfl⟩ := ob_w h
      exact km_iret C hP hD hS dX3_takeWeight_31
    · have h := ob_f c_2 h
      refine lv_aload_n hx hb dX3_takeWeight_16 rfl (lv_at hl 0 rfl) ?_
      refine va_get (D := D) (ci := 3) (v := .ref (ad 2)) (C := RX3) (T := TX3) (N := 11) hx hb hts ni_X3_takeWeight_X3 hown hK hP 16 rw_Tape rfl 4 (by decide) (hts _ nf_X3_takeWeight_f12) (fun _ h9 => h9) rfl dX3_takeWeight_17 ?_
      refine lv_aload_n hx hb dX3_takeWeight_20 rfl (lv_at hl 0 rfl) ?_
      refine va_get (D := D) (ci := 3) (v := .int (st_i S 53)) (C := RX3) (T := TX3) (N := 11) hx hb hts ni_X3_takeWeight_X3 hown hK hP 16 rw_Tape rfl 10 (by decide) (hts _ nf_X3_takeWeight_f106) (fun _ h9 => h9) rfl dX3_takeWeight_21 ?_
      obtain ⟨r_4, S_5, hc_3, h⟩ := ob_2s h
      refine km_cVz (As := [.int (st_i S 53)]) (rest := []) C (kX0_hasGap hEE (by decide : 2 < 13) hc_3) (cwV 1 hts gX3_takeWeight_X0_hasGap rfl rfl rfl (by decide +kernel) ⟨(Nat.le_of_ble_eq_true rfl), (Nat.le_of_ble_eq_true rfl)⟩) (rw_Book (by decide : 2 < 13)) rfl rfl rfl hP hD hS hl.1 rfl (Nat.le_of_ble_eq_true rfl) dX3_takeWeight_24 (fun H locs hP hD hS hz_6 => ?_)
      refine lv_if_ne (tgt := 32) hx hb dX3_takeWeight_27 (by decide) (fun c_7 => ?_) (fun c_7 => ?_)
      · have h := ob_f c_7 h
        refine lv_aload_n hx hb dX3_takeWeight_32 rfl (lv_at hl 0 rfl) ?_
        refine va_get (D := D) (ci := 3) (v := .ref (ad 2)) (C := RX3) (T := TX3) (N := 11) hx hb hts ni_X3_takeWeight_X3 hown hK hP 16 rw_Tape rfl 4 (by decide) (hts _ nf_X3_takeWeight_f12) (fun _ h9 => h9) rfl dX3_takeWeight_33 ?_
        refine va_get (D := D) (ci := 0) (v := .ref (ad (23 + 2 * 2))) (C := RX0) (T := TX0) (N := 5) hx hb hts ni_X3_takeWeight_X0 hown hK hP 2 (rw_Book (by decide : 2 < 13)) rfl 3 (by decide) (hts _ nf_X3_takeWeight_f102) (fun _ h9 => h9) rfl dX3_takeWeight_36 ?_
        refine lv_aload_n hx hb dX3_takeWeight_39 rfl (lv_at hl 0 rfl) ?_
        refine va_get (D := D) (ci := 3) (v := .int (st_i S_5 53)) (C := RX3) (T := TX3) (N := 11) hx hb hts ni_X3_takeWeight_X3 hown hK hP 16 rw_Tape rfl 10 (by decide) (hts _ nf_X3_takeWeight_f106) (fun _ h9 => h9) rfl dX3_takeWeight_40 ?_
        refine lv_aload_n hx hb dX3_takeWeight_43 rfl (lv_at hl 0 rfl) ?_
        refine va_get (D := D) (ci := 3) (v := .int (st_i S_5 51)) (C := RX3) (T := TX3) (N := 11) hx hb hts ni_X3_takeWeight_X3 hown hK hP 16 rw_Tape rfl 8 (by decide) (hts _ nf_X3_takeWeight_f93) (fun _ h9 => h9) rfl dX3_takeWeight_44 ?_
        obtain ⟨hv_8, h⟩ := ob_in_s h
        refine va_iast hx hb hK hP hD hS (23 + 2 * 2) 0 (rw_weights (by decide : 2 < 13)) rfl hv_8 dX3_takeWeight_47 (fun H locs hP hD hS => ?_)
        have hP := st_ps (rw_s_weights (by decide : 2 < 13)) hP
        have hD := st_ds (rw_s_weights (by decide : 2 < 13)) hD
        refine lv_aload_n hx hb dX3_takeWeight_48 rfl (lv_at hl 0 rfl) ?_
        refine lv_bipush (v := 6) hx hb dX3_takeWeight_49 (by decide) ?_
        obtain ⟨r_10, S_11, hc_9, h⟩ := ob_2s h
        refine km_cVi (As := [.int (6 : Int32)]) (rest := []) C (kX3_goOn hEE hc_9) (cwV 1 hts gX3_takeWeight_X3_goOn rfl rfl rfl (by decide +kernel) ⟨(Nat.le_of_ble_eq_true rfl), (Nat.le_of_ble_eq_true rfl)⟩) rw_Tape rfl rfl rfl hP hD hS hl.1 rfl (Nat.le_of_ble_eq_true rfl) dX3_takeWeight_51 (fun H locs hP hD hS => ?_)
        obtain ⟨rfl, rfl⟩ := ob_w h
        exact km_iret C hP hD hS dX3_takeWeight_54
      · have h := ob_t c_7 h
        refine lv_iconst (v := 2) hx hb dX3_takeWeight_30 (by decide) ?_
        obtain ⟨rfl, rfl⟩ := ob_w h
        exact km_iret C hP hD hS dX3_takeWeight_31
def fX3_takeMonth (S : RSt) : Option (Int32 × RSt) := (ob_2 (fX0_hasMonth 2 (st_i S 51) S) fun r_2 S_3 => (if r_2 = 0 then (some ((2 : Int32), S_3)) else (ob_2 (fX0_levelAt 2 ((st_i S_3 (3 * 2 + 1)) - (1 : Int32)) (st_i S_3 51) S_3) fun r_7 S_8 => (if r_7 = (-1 : Int32) then (ob_2 (fX3_goOn (5 : Int32) (st_si S_8 53 (st_i S_8 51))) fun r_11 S_12 => (some (r_11, S_12))) else (some ((2 : Int32), S_8))))))
abbrev rmX3_takeMonth : Room := { frames := 2, cells := 0, slots := 0, locals := 43 }
theorem nf_X3_takeMonth_f12 : Cond.fieldLink RX3 12 "RepeatIndex$Tape" "told" "LRepeatIndex$Book;" ∈ wsX3_takeMonth := by decide +kernel
theorem ni_X3_takeMonth_X3 : ∀ w ∈ u_ws RX3 TX3 11, w ∈ wsX3_takeMonth := by decide +kernel
theorem nf_X3_takeMonth_f93 : Cond.fieldLink RX3 93 "RepeatIndex$Tape" "value" "I" ∈ wsX3_takeMonth := by decide +kernel
theorem nf_X3_takeMonth_f81 : Cond.fieldLink RX3 81 "RepeatIndex$Book" "homes" "I" ∈ wsX3_takeMonth := by decide +kernel
theorem ni_X3_takeMonth_X0 : ∀ w ∈ u_ws RX0 TX0 5, w ∈ wsX3_takeMonth := by decide +kernel
theorem nf_X3_takeMonth_f106 : Cond.fieldLink RX3 106 "RepeatIndex$Tape" "subject" "I" ∈ wsX3_takeMonth := by decide +kernel
set_option maxHeartbeats 4000000 in
set_option maxRecDepth 100000 in
theorem kX3_takeMonth {l : Launch} {D : va_G} {cy : Nat → ClassId} {ad : Nat → Nat} {E : ke_T} (hEE : km_E E) {S : RSt} {r : Int32} {S' : RSt} (h : fX3_takeMonth S = some (r, S')) : km_i l D (rw_t cy) (rw_w cy ad) E yX3_takeMonth wsX3_takeMonth rmX3_takeMonth [.ref (ad 16)] S r S' := by
  refine km_i_in (cc := cX3_takeMonth) (nL := 1) hEE (by decide) rfl (Nat.le_of_ble_eq_true rfl) ?_
  intro p e s m below meth c A H ls C hP hD hS hl
  have C : km_C p s m _ meth c cX3_takeMonth 1 RX3 wsX3_takeMonth (some .int) D (rw_t cy) E A := C
  obtain ⟨⟨hx, hb, hml, hown, hts⟩, hr, hlk, hK, hA, hE, hEE⟩ := id C
  have hl : lv_has ls 1 [(0, .ref (ad 16))] := hl
  unfold fX3_takeMonth at h
  refine lv_aload_n hx hb dX3_takeMonth_0 rfl (lv_at hl 0 rfl) ?_
  refine va_get (D := D) (ci := 3) (v := .ref (ad 2)) (C := RX3) (T := TX3) (N := 11) hx hb hts ni_X3_takeMonth_X3 hown hK hP 16 rw_Tape rfl 4 (by decide) (hts _ nf_X3_takeMonth_f12) (fun _ h9 => h9) rfl dX3_takeMonth_1 ?_
  refine lv_aload_n hx hb dX3_takeMonth_4 rfl (lv_at hl 0 rfl) ?_
  refine va_get (D := D) (ci := 3) (v := .int (st_i S 51)) (C := RX3) (T := TX3) (N := 11) hx hb hts ni_X3_takeMonth_X3 hown hK hP 16 rw_Tape rfl 8 (by decide) (hts _ nf_X3_takeMonth_f93) (fun _ h9 => h9) rfl dX3_takeMonth_5 ?_
  obtain ⟨r_2, S_3, hc_1, h⟩ := ob_2s h
  refine km_cVz (As := [.int (st_i S 51)]) (rest := []) C (kX0_hasMonth hEE (by decide : 2 < 13) hc_1) (cwV 1 hts gX3_takeMonth_X0_hasMonth rfl rfl rfl (by decide +kernel) ⟨(Nat.le_of_ble_eq_true rfl), (Nat.le_of_ble_eq_true rfl)⟩) (rw_Book (by decide : 2 < 13)) rfl rfl rfl hP hD hS hl.1 rfl (Nat.le_of_ble_eq_true rfl) dX3_takeMonth_8 (fun H locs hP hD hS hz_4 => ?_)
  refine lv_if_eq (tgt := 38) hx hb dX3_takeMonth_11 (by decide) (fun c_5 => ?_) (fun c_5 => ?_)
  · have h := ob_t c_5 h
    refine lv_iconst (v := 2) hx hb dX3_takeMonth_38 (by decide) ?_
    obtain ⟨rfl, rfl⟩ := ob_w h
    exact km_iret C hP hD hS dX3_takeMonth_39
  · have h := ob_f c_5 h
    refine lv_aload_n hx hb dX3_takeMonth_14 rfl (lv_at hl 0 rfl) ?_
    refine va_get (D := D) (ci := 3) (v := .ref (ad 2)) (C := RX3) (T := TX3) (N := 11) hx hb hts ni_X3_takeMonth_X3 hown hK hP 16 rw_Tape rfl 4 (by decide) (hts _ nf_X3_takeMonth_f12) (fun _ h9 => h9) rfl dX3_takeMonth_15 ?_
    refine lv_aload_n hx hb dX3_takeMonth_18 rfl (lv_at hl 0 rfl) ?_
    refine va_get (D := D) (ci := 3) (v := .ref (ad 2)) (C := RX3) (T := TX3) (N := 11) hx hb hts ni_X3_takeMonth_X3 hown hK hP 16 rw_Tape rfl 4 (by decide) (hts _ nf_X3_takeMonth_f12) (fun _ h9 => h9) rfl dX3_takeMonth_19 ?_
    refine va_get (D := D) (ci := 0) (v := .int (st_i S_3 (3 * 2 + 1))) (C := RX0) (T := TX0) (N := 5) hx hb hts ni_X3_takeMonth_X0 hown hK hP 2 (rw_Book (by decide : 2 < 13)) rfl 1 (by decide) (hts _ nf_X3_takeMonth_f81) (fun _ h9 => h9) rfl dX3_takeMonth_22 ?_
    refine lv_iconst (v := 1) hx hb dX3_takeMonth_25 (by decide) ?_
    refine lv_isub hx hb dX3_takeMonth_26 ?_
    refine lv_aload_n hx hb dX3_takeMonth_27 rfl (lv_at hl 0 rfl) ?_
    refine va_get (D := D) (ci := 3) (v := .int (st_i S_3 51)) (C := RX3) (T := TX3) (N := 11) hx hb hts ni_X3_takeMonth_X3 hown hK hP 16 rw_Tape rfl 8 (by decide) (hts _ nf_X3_takeMonth_f93) (fun _ h9 => h9) rfl dX3_takeMonth_28 ?_
    obtain ⟨r_7, S_8, hc_6, h⟩ := ob_2s h
    refine km_cVi (As := [.int ((st_i S_3 (3 * 2 + 1)) - (1 : Int32)), .int (st_i S_3 51)]) (rest := []) C (kX0_levelAt hEE (by decide : 2 < 13) hc_6) (cwV 2 hts gX3_takeMonth_X0_levelAt rfl rfl rfl (by decide +kernel) ⟨(Nat.le_of_ble_eq_true rfl), (Nat.le_of_ble_eq_true rfl)⟩) (rw_Book (by decide : 2 < 13)) rfl rfl rfl hP hD hS hl.1 rfl (Nat.le_of_ble_eq_true rfl) dX3_takeMonth_31 (fun H locs hP hD hS => ?_)
    refine lv_iconst (v := -1) hx hb dX3_takeMonth_34 (by decide) ?_
    refine lv_icmp_eq (tgt := 40) hx hb dX3_takeMonth_35 (by decide) (fun c_9 => ?_) (fun c_9 => ?_)
    · have h := ob_t c_9 h
      refine lv_aload_n hx hb dX3_takeMonth_40 rfl (lv_at hl 0 rfl) ?_
      refine lv_aload_n hx hb dX3_takeMonth_41 rfl (lv_at hl 0 rfl) ?_
      refine va_get (D := D) (ci := 3) (v := .int (st_i S_8 51)) (C := RX3) (T := TX3) (N := 11) hx hb hts ni_X3_takeMonth_X3 hown hK hP 16 rw_Tape rfl 8 (by decide) (hts _ nf_X3_takeMonth_f93) (fun _ h9 => h9) rfl dX3_takeMonth_42 ?_
      refine va_put (D := D) (ci := 3) (v := .int (st_i S_8 51)) (ty := .int) (C := RX3) (T := TX3) (N := 11) hx hb hts ni_X3_takeMonth_X3 tyX3 tyX3_ok nmX3 hown hK hP hD hS 16 rw_Tape rfl 10 (by decide) (hts _ nf_X3_takeMonth_f106) (fun _ h9 => h9) rfl (by decide +kernel) rfl rfl (Nat.le_of_ble_eq_true rfl) dX3_takeMonth_45 (fun H locs hP hD hS => ?_)
      have hP := st_ps rw_s_Tape_subject hP
      have hD := st_ds rw_s_Tape_subject hD
      refine lv_aload_n hx hb dX3_takeMonth_48 rfl (lv_at hl 0 rfl) ?_
      refine lv_iconst (v := 5) hx hb dX3_takeMonth_49 (by decide) ?_
      obtain ⟨r_11, S_12, hc_10, h⟩ := ob_2s h
      refine km_cVi (As := [.int (5 : Int32)]) (rest := []) C (kX3_goOn hEE hc_10) (cwV 1 hts gX3_takeMonth_X3_goOn rfl rfl rfl (by decide +kernel) ⟨(Nat.le_of_ble_eq_true rfl), (Nat.le_of_ble_eq_true rfl)⟩) rw_Tape rfl rfl rfl hP hD hS hl.1 rfl (Nat.le_of_ble_eq_true rfl) dX3_takeMonth_50 (fun H locs hP hD hS => ?_)
      obtain ⟨rfl, rfl⟩ := ob_w h
      exact km_iret C hP hD hS dX3_takeMonth_53
    · have h := ob_f c_9 h
      refine lv_iconst (v := 2) hx hb dX3_takeMonth_38 (by decide) ?_
      obtain ⟨rfl, rfl⟩ := ob_w h
      exact km_iret C hP hD hS dX3_takeMonth_39
def fX3_takeLevel (S : RSt) : Option (Int32 × RSt) := (ob_2 (fX0_canTake 2 ((st_i S (3 * 2 + 1)) - (1 : Int32)) (st_i S 53) (st_i S 51) S) fun r_2 S_3 => (if r_2 = 0 then (some ((2 : Int32), S_3)) else (ob_1 (fX0_putSale 2 ((st_i S_3 (3 * 2 + 1)) - (1 : Int32)) (st_i S_3 53) (st_i S_3 51) S_3) fun S_8 => (ob_2 (fX3_goOn (6 : Int32) S_8) fun r_10 S_11 => (some (r_10, S_11))))))
abbrev rmX3_takeLevel : Room := { frames := 3, cells := 0, slots := 0, locals := 67 }
theorem nf_X3_takeLevel_f12 : Cond.fieldLink RX3 12 "RepeatIndex$Tape" "told" "LRepeatIndex$Book;" ∈ wsX3_takeLevel := by decide +kernel
theorem ni_X3_takeLevel_X3 : ∀ w ∈ u_ws RX3 TX3 11, w ∈ wsX3_takeLevel := by decide +kernel
theorem nf_X3_takeLevel_f81 : Cond.fieldLink RX3 81 "RepeatIndex$Book" "homes" "I" ∈ wsX3_takeLevel := by decide +kernel
theorem ni_X3_takeLevel_X0 : ∀ w ∈ u_ws RX0 TX0 5, w ∈ wsX3_takeLevel := by decide +kernel
theorem nf_X3_takeLevel_f106 : Cond.fieldLink RX3 106 "RepeatIndex$Tape" "subject" "I" ∈ wsX3_takeLevel := by decide +kernel
theorem nf_X3_takeLevel_f93 : Cond.fieldLink RX3 93 "RepeatIndex$Tape" "value" "I" ∈ wsX3_takeLevel := by decide +kernel
set_option maxHeartbeats 4000000 in
set_option maxRecDepth 100000 in
theorem kX3_takeLevel {l : Launch} {D : va_G} {cy : Nat → ClassId} {ad : Nat → Nat} {E : ke_T} (hEE : km_E E) {S : RSt} {r : Int32} {S' : RSt} (h : fX3_takeLevel S = some (r, S')) : km_i l D (rw_t cy) (rw_w cy ad) E yX3_takeLevel wsX3_takeLevel rmX3_takeLevel [.ref (ad 16)] S r S' := by
  refine km_i_in (cc := cX3_takeLevel) (nL := 1) hEE (by decide) rfl (Nat.le_of_ble_eq_true rfl) ?_
  intro p e s m below meth c A H ls C hP hD hS hl
  have C : km_C p s m _ meth c cX3_takeLevel 1 RX3 wsX3_takeLevel (some .int) D (rw_t cy) E A := C
  obtain ⟨⟨hx, hb, hml, hown, hts⟩, hr, hlk, hK, hA, hE, hEE⟩ := id C
  have hl : lv_has ls 1 [(0, .ref (ad 16))] := hl
  unfold fX3_takeLevel at h
  refine lv_aload_n hx hb dX3_takeLevel_0 rfl (lv_at hl 0 rfl) ?_
  refine va_get (D := D) (ci := 3) (v := .ref (ad 2)) (C := RX3) (T := TX3) (N := 11) hx hb hts ni_X3_takeLevel_X3 hown hK hP 16 rw_Tape rfl 4 (by decide) (hts _ nf_X3_takeLevel_f12) (fun _ h9 => h9) rfl dX3_takeLevel_1 ?_
  refine lv_aload_n hx hb dX3_takeLevel_4 rfl (lv_at hl 0 rfl) ?_
  refine va_get (D := D) (ci := 3) (v := .ref (ad 2)) (C := RX3) (T := TX3) (N := 11) hx hb hts ni_X3_takeLevel_X3 hown hK hP 16 rw_Tape rfl 4 (by decide) (hts _ nf_X3_takeLevel_f12) (fun _ h9 => h9) rfl dX3_takeLevel_5 ?_
  refine va_get (D := D) (ci := 0) (v := .int (st_i S (3 * 2 + 1))) (C := RX0) (T := TX0) (N := 5) hx hb hts ni_X3_takeLevel_X0 hown hK hP 2 (rw_Book (by decide : 2 < 13)) rfl 1 (by decide) (hts _ nf_X3_takeLevel_f81) (fun _ h9 => h9) rfl dX3_takeLevel_8 ?_
  refine lv_iconst (v := 1) hx hb dX3_takeLevel_11 (by decide) ?_
  refine lv_isub hx hb dX3_takeLevel_12 ?_
  refine lv_aload_n hx hb dX3_takeLevel_13 rfl (lv_at hl 0 rfl) ?_
  refine va_get (D := D) (ci := 3) (v := .int (st_i S 53)) (C := RX3) (T := TX3) (N := 11) hx hb hts ni_X3_takeLevel_X3 hown hK hP 16 rw_Tape rfl 10 (by decide) (hts _ nf_X3_takeLevel_f106) (fun _ h9 => h9) rfl dX3_takeLevel_14 ?_
  refine lv_aload_n hx hb dX3_takeLevel_17 rfl (lv_at hl 0 rfl) ?_
  refine va_get (D := D) (ci := 3) (v := .int (st_i S 51)) (C := RX3) (T := TX3) (N := 11) hx hb hts ni_X3_takeLevel_X3 hown hK hP 16 rw_Tape rfl 8 (by decide) (hts _ nf_X3_takeLevel_f93) (fun _ h9 => h9) rfl dX3_takeLevel_18 ?_
  obtain ⟨r_2, S_3, hc_1, h⟩ := ob_2s h
  refine km_cVz (As := [.int ((st_i S (3 * 2 + 1)) - (1 : Int32)), .int (st_i S 53), .int (st_i S 51)]) (rest := []) C (kX0_canTake hEE (by decide : 2 < 13) hc_1) (cwV 3 hts gX3_takeLevel_X0_canTake rfl rfl rfl (by decide +kernel) ⟨(Nat.le_of_ble_eq_true rfl), (Nat.le_of_ble_eq_true rfl)⟩) (rw_Book (by decide : 2 < 13)) rfl rfl rfl hP hD hS hl.1 rfl (Nat.le_of_ble_eq_true rfl) dX3_takeLevel_21 (fun H locs hP hD hS hz_4 => ?_)
  refine lv_if_ne (tgt := 29) hx hb dX3_takeLevel_24 (by decide) (fun c_5 => ?_) (fun c_5 => ?_)
  · have h := ob_f c_5 h
    refine lv_aload_n hx hb dX3_takeLevel_29 rfl (lv_at hl 0 rfl) ?_
    refine va_get (D := D) (ci := 3) (v := .ref (ad 2)) (C := RX3) (T := TX3) (N := 11) hx hb hts ni_X3_takeLevel_X3 hown hK hP 16 rw_Tape rfl 4 (by decide) (hts _ nf_X3_takeLevel_f12) (fun _ h9 => h9) rfl dX3_takeLevel_30 ?_
    refine lv_aload_n hx hb dX3_takeLevel_33 rfl (lv_at hl 0 rfl) ?_
    refine va_get (D := D) (ci := 3) (v := .ref (ad 2)) (C := RX3) (T := TX3) (N := 11) hx hb hts ni_X3_takeLevel_X3 hown hK hP 16 rw_Tape rfl 4 (by decide) (hts _ nf_X3_takeLevel_f12) (fun _ h9 => h9) rfl dX3_takeLevel_34 ?_
    refine va_get (D := D) (ci := 0) (v := .int (st_i S_3 (3 * 2 + 1))) (C := RX0) (T := TX0) (N := 5) hx hb hts ni_X3_takeLevel_X0 hown hK hP 2 (rw_Book (by decide : 2 < 13)) rfl 1 (by decide) (hts _ nf_X3_takeLevel_f81) (fun _ h9 => h9) rfl dX3_takeLevel_37 ?_
    refine lv_iconst (v := 1) hx hb dX3_takeLevel_40 (by decide) ?_
    refine lv_isub hx hb dX3_takeLevel_41 ?_
    refine lv_aload_n hx hb dX3_takeLevel_42 rfl (lv_at hl 0 rfl) ?_
    refine va_get (D := D) (ci := 3) (v := .int (st_i S_3 53)) (C := RX3) (T := TX3) (N := 11) hx hb hts ni_X3_takeLevel_X3 hown hK hP 16 rw_Tape rfl 10 (by decide) (hts _ nf_X3_takeLevel_f106) (fun _ h9 => h9) rfl dX3_takeLevel_43 ?_
    refine lv_aload_n hx hb dX3_takeLevel_46 rfl (lv_at hl 0 rfl) ?_
    refine va_get (D := D) (ci := 3) (v := .int (st_i S_3 51)) (C := RX3) (T := TX3) (N := 11) hx hb hts ni_X3_takeLevel_X3 hown hK hP 16 rw_Tape rfl 8 (by decide) (hts _ nf_X3_takeLevel_f93) (fun _ h9 => h9) rfl dX3_takeLevel_47 ?_
    obtain ⟨S_8, hc_6, h⟩ := ob_1s h
    refine km_cVv (As := [.int ((st_i S_3 (3 * 2 + 1)) - (1 : Int32)), .int (st_i S_3 53), .int (st_i S_3 51)]) (rest := []) C (kX0_putSale hEE (by decide : 2 < 13) hc_6) (cwV 3 hts gX3_takeLevel_X0_putSale rfl rfl rfl (by decide +kernel) ⟨(Nat.le_of_ble_eq_true rfl), (Nat.le_of_ble_eq_true rfl)⟩) (rw_Book (by decide : 2 < 13)) rfl rfl rfl hP hD hS hl.1 rfl (Nat.le_of_ble_eq_true rfl) dX3_takeLevel_50 (fun H locs hP hD hS => ?_)
    refine lv_aload_n hx hb dX3_takeLevel_53 rfl (lv_at hl 0 rfl) ?_
    refine lv_bipush (v := 6) hx hb dX3_takeLevel_54 (by decide) ?_
    obtain ⟨r_10, S_11, hc_9, h⟩ := ob_2s h
    refine km_cVi (As := [.int (6 : Int32)]) (rest := []) C (kX3_goOn hEE hc_9) (cwV 1 hts gX3_takeLevel_X3_goOn rfl rfl rfl (by decide +kernel) ⟨(Nat.le_of_ble_eq_true rfl), (Nat.le_of_ble_eq_true rfl)⟩) rw_Tape rfl rfl rfl hP hD hS hl.1 rfl (Nat.le_of_ble_eq_true rfl) dX3_takeLevel_56 (fun H locs hP hD hS => ?_)
    obtain ⟨rfl, rfl⟩ := ob_w h
    exact km_iret C hP hD hS dX3_takeLevel_59
  · have h := ob_t c_5 h
    refine lv_iconst (v := 2) hx hb dX3_takeLevel_27 (by decide) ?_
    obtain ⟨rfl, rfl⟩ := ob_w h
    exact km_iret C hP hD hS dX3_takeLevel_28
def fX3_takeWord (S : RSt) : Option (Int32 × RSt) := (ob_j (fun (sJ_1_0 : Int32) (S_2 : RSt) => (ob_j (fun (S_4 : RSt) => (ob_j (fun (S_6 : RSt) => (ob_j (fun (S_8 : RSt) => (if (st_i S_8 50) = (7 : Int32) then (if (st_i S_8 (3 * 2 + 1)) ≤ 0 then (some ((1 : Int32), S_8)) else (if (18 : Int32) ≤ (st_i S_8 (3 * 2 + 2)) then (some ((3 : Int32), S_8)) else (ob_2 (fX3_goOn (4 : Int32) S_8) fun r_13 S_14 => (some (r_13, S_14))))) else (some ((1 : Int32), S_8)))) fun tJ_7 => (if (st_i S_6 50) = (6 : Int32) then (if sJ_1_0 = 0 then (ob_2 (fX3_takeHome S_6) fun r_19 S_20 => (some (r_19, S_20))) else (tJ_7 S_6)) else (tJ_7 S_6)))) fun tJ_5 => (if (st_i S_4 50) = (5 : Int32) then (if sJ_1_0 = 0 then (if (st_i S_4 (3 * 2 + 1)) = 0 then (ob_2 (fX3_goOn (2 : Int32) S_4) fun r_26 S_27 => (some (r_26, S_27))) else (tJ_5 S_4)) else (tJ_5 S_4)) else (tJ_5 S_4)))) fun tJ_3 => (if (st_i S_2 50) = (4 : Int32) then (if sJ_1_0 = 0 then (tJ_3 S_2) else (ob_2 (fX3_goOn (1 : Int32) S_2) fun r_32 S_33 => (some (r_32, S_33)))) else (tJ_3 S_2)))) fun tJ_1 => (if (st_i S 47) = 0 then (tJ_1 (1 : Int32) S) else (tJ_1 (0 : Int32) S)))
abbrev rmX3_takeWord : Room := { frames := 2, cells := 0, slots := 0, locals := 41 }
theorem nf_X3_takeWord_f34 : Cond.fieldLink RX3 34 "RepeatIndex$Tape" "lines" "I" ∈ wsX3_takeWord := by decide +kernel
theorem ni_X3_takeWord_X3 : ∀ w ∈ u_ws RX3 TX3 11, w ∈ wsX3_takeWord := by decide +kernel
theorem nf_X3_takeWord_f46 : Cond.fieldLink RX3 46 "RepeatIndex$Tape" "kind" "I" ∈ wsX3_takeWord := by decide +kernel
theorem nf_X3_takeWord_f12 : Cond.fieldLink RX3 12 "RepeatIndex$Tape" "told" "LRepeatIndex$Book;" ∈ wsX3_takeWord := by decide +kernel
theorem nf_X3_takeWord_f81 : Cond.fieldLink RX3 81 "RepeatIndex$Book" "homes" "I" ∈ wsX3_takeWord := by decide +kernel
theorem ni_X3_takeWord_X0 : ∀ w ∈ u_ws RX0 TX0 5, w ∈ wsX3_takeWord := by decide +kernel
theorem nf_X3_takeWord_f87 : Cond.fieldLink RX3 87 "RepeatIndex$Book" "sales" "I" ∈ wsX3_takeWord := by decide +kernel
set_option maxHeartbeats 4000000 in
set_option maxRecDepth 100000 in
theorem kX3_takeWord {l : Launch} {D : va_G} {cy : Nat → ClassId} {ad : Nat → Nat} {E : ke_T} (hEE : km_E E) {S : RSt} {r : Int32} {S' : RSt} (h : fX3_takeWord S = some (r, S')) : km_i l D (rw_t cy) (rw_w cy ad) E yX3_takeWord wsX3_takeWord rmX3_takeWord [.ref (ad 16)] S r S' := by
  refine km_i_in (cc := cX3_takeWord) (nL := 2) hEE (by decide) rfl (Nat.le_of_ble_eq_true rfl) ?_
  intro p e s m below meth c A H ls C hP hD hS hl
  have C : km_C p s m _ meth c cX3_takeWord 2 RX3 wsX3_takeWord (some .int) D (rw_t cy) E A := C
  obtain ⟨⟨hx, hb, hml, hown, hts⟩, hr, hlk, hK, hA, hE, hEE⟩ := id C
  have hl : lv_has ls 2 [(0, .ref (ad 16))] := hl
  unfold fX3_takeWord at h
  refine lv_aload_n hx hb dX3_takeWord_0 rfl (lv_at hl 0 rfl) ?_
  refine va_get (D := D) (ci := 3) (v := .int (st_i S 47)) (C := RX3) (T := TX3) (N := 11) hx hb hts ni_X3_takeWord_X3 hown hK hP 16 rw_Tape rfl 2 (by decide) (hts _ nf_X3_takeWord_f34) (fun _ h9 => h9) rfl dX3_takeWord_1 ?_
  obtain ⟨tJ_1, hT_34, h⟩ := ob_js h
  have kJ_1 : ∀ (sJ_1_0 : Int32) (S_2 : RSt) (_ : tJ_1 sJ_1_0 S_2 = some (r, S')) (H : Heap) (locs : List Loc) (ls : Array Slot), va_P D vwCl ((rw_w cy ad) S_2) H → va_D A ((rw_w cy ad) S_2) → va_S A s.heap H locs → lv_has ls 2 [(0, .ref (ad 16))] → W p l e rmX3_takeWord s m ([.ref (ad 16)] : List Value).toArray below meth c H locs 0 0 (km_Qi below D (rw_t cy) (rw_w cy ad) A ([.ref (ad 16)] : List Value).toArray s r S') (F0 m 12 ls [.int sJ_1_0]) := by
    intro sJ_1_0 S_2 h H locs ls hP hD hS hl
    rw [← hT_34] at h
    refine lv_istore_n (lv' := [(1, .int sJ_1_0), (0, .ref (ad 16))]) hx hb dX3_takeWord_12 rfl hl (by decide) rfl (fun ls hl => ?_)
    refine lv_aload_n hx hb dX3_takeWord_13 rfl (lv_at hl 1 rfl) ?_
    refine va_get (D := D) (ci := 3) (v := .int (st_i S_2 50)) (C := RX3) (T := TX3) (N := 11) hx hb hts ni_X3_takeWord_X3 hown hK hP 16 rw_Tape rfl 7 (by decide) (hts _ nf_X3_takeWord_f46) (fun _ h9 => h9) rfl dX3_takeWord_14 ?_
    refine lv_iconst (v := 4) hx hb dX3_takeWord_17 (by decide) ?_
    obtain ⟨tJ_3, hT_28, h⟩ := ob_js h
    have kJ_3 : ∀ (S_4 : RSt) (_ : tJ_3 S_4 = some (r, S')) (H : Heap) (locs : List Loc) (ls : Array Slot), va_P D vwCl ((rw_w cy ad) S_4) H → va_D A ((rw_w cy ad) S_4) → va_S A s.heap H locs → lv_has ls 2 [(0, .ref (ad 16)), (1, .int sJ_1_0)] → W p l e rmX3_takeWord s m ([.ref (ad 16)] : List Value).toArray below meth c H locs 0 0 (km_Qi below D (rw_t cy) (rw_w cy ad) A ([.ref (ad 16)] : List Value).toArray s r S') (F0 m 31 ls []) := by
      intro S_4 h H locs ls hP hD hS hl
      rw [← hT_28] at h
      refine lv_aload_n hx hb dX3_takeWord_31 rfl (lv_at hl 0 rfl) ?_
      refine va_get (D := D) (ci := 3) (v := .int (st_i S_4 50)) (C := RX3) (T := TX3) (N := 11) hx hb hts ni_X3_takeWord_X3 hown hK hP 16 rw_Tape rfl 7 (by decide) (hts _ nf_X3_takeWord_f46) (fun _ h9 => h9) rfl dX3_takeWord_32 ?_
      refine lv_iconst (v := 5) hx hb dX3_takeWord_35 (by decide) ?_
      obtain ⟨tJ_5, hT_21, h⟩ := ob_js h
      have kJ_5 : ∀ (S_6 : RSt) (_ : tJ_5 S_6 = some (r, S')) (H : Heap) (locs : List Loc) (ls : Array Slot), va_P D vwCl ((rw_w cy ad) S_6) H → va_D A ((rw_w cy ad) S_6) → va_S A s.heap H locs → lv_has ls 2 [(0, .ref (ad 16)), (1, .int sJ_1_0)] → W p l e rmX3_takeWord s m ([.ref (ad 16)] : List Value).toArray below meth c H locs 0 0 (km_Qi below D (rw_t cy) (rw_w cy ad) A ([.ref (ad 16)] : List Value).toArray s r S') (F0 m 59 ls []) := by
        intro S_6 h H locs ls hP hD hS hl
        rw [← hT_21] at h
        refine lv_aload_n hx hb dX3_takeWord_59 rfl (lv_at hl 0 rfl) ?_
        refine va_get (D := D) (ci := 3) (v := .int (st_i S_6 50)) (C := RX3) (T := TX3) (N := 11) hx hb hts ni_X3_takeWord_X3 hown hK hP 16 rw_Tape rfl 7 (by decide) (hts _ nf_X3_takeWord_f46) (fun _ h9 => h9) rfl dX3_takeWord_60 ?_
        refine lv_bipush (v := 6) hx hb dX3_takeWord_63 (by decide) ?_
        obtain ⟨tJ_7, hT_15, h⟩ := ob_js h
        have kJ_7 : ∀ (S_8 : RSt) (_ : tJ_7 S_8 = some (r, S')) (H : Heap) (locs : List Loc) (ls : Array Slot), va_P D vwCl ((rw_w cy ad) S_8) H → va_D A ((rw_w cy ad) S_8) → va_S A s.heap H locs → lv_has ls 2 [(0, .ref (ad 16))] → W p l e rmX3_takeWord s m ([.ref (ad 16)] : List Value).toArray below meth c H locs 0 0 (km_Qi below D (rw_t cy) (rw_w cy ad) A ([.ref (ad 16)] : List Value).toArray s r S') (F0 m 77 ls []) := by
          intro S_8 h H locs ls hP hD hS hl
          rw [← hT_15] at h
          refine lv_aload_n hx hb dX3_takeWord_77 rfl (lv_at hl 0 rfl) ?_
          refine va_get (D := D) (ci := 3) (v := .int (st_i S_8 50)) (C := RX3) (T := TX3) (N := 11) hx hb hts ni_X3_takeWord_X3 hown hK hP 16 rw_Tape rfl 7 (by decide) (hts _ nf_X3_takeWord_f46) (fun _ h9 => h9) rfl dX3_takeWord_78 ?_
          refine lv_bipush (v := 7) hx hb dX3_takeWord_81 (by decide) ?_
          refine lv_icmp_ne (tgt := 118) hx hb dX3_takeWord_83 (by decide) (fun c_9 => ?_) (fun c_9 => ?_)
          · have h := ob_f c_9 h
            refine lv_iconst (v := 1) hx hb dX3_takeWord_118 (by decide) ?_
            obtain ⟨rfl, rfl⟩ := ob_w h
            exact km_iret C hP hD hS dX3_takeWord_119
          · have h := ob_t c_9 h
            refine lv_aload_n hx hb dX3_takeWord_86 rfl (lv_at hl 0 rfl) ?_
            refine va_get (D := D) (ci := 3) (v := .ref (ad 2)) (C := RX3) (T := TX3) (N := 11) hx hb hts ni_X3_takeWord_X3 hown hK hP 16 rw_Tape rfl 4 (by decide) (hts _ nf_X3_takeWord_f12) (fun _ h9 => h9) rfl dX3_takeWord_87 ?_
            refine va_get (D := D) (ci := 0) (v := .int (st_i S_8 (3 * 2 + 1))) (C := RX0) (T := TX0) (N := 5) hx hb hts ni_X3_takeWord_X0 hown hK hP 2 (rw_Book (by decide : 2 < 13)) rfl 1 (by decide) (hts _ nf_X3_takeWord_f81) (fun _ h9 => h9) rfl dX3_takeWord_90 ?_
            refine lv_if_le (tgt := 118) hx hb dX3_takeWord_93 (by decide) (fun c_10 => ?_) (fun c_10 => ?_)
            · have h := ob_t c_10 h
              refine lv_iconst (v := 1) hx hb dX3_takeWord_118 (by decide) ?_
              obtain ⟨rfl, rfl⟩ := ob_w h
              exact km_iret C hP hD hS dX3_takeWord_119
            · have h := ob_f c_10 h
              refine lv_aload_n hx hb dX3_takeWord_96 rfl (lv_at hl 0 rfl) ?_
              refine va_get (D := D) (ci := 3) (v := .ref (ad 2)) (C := RX3) (T := TX3) (N := 11) hx hb hts ni_X3_takeWord_X3 hown hK hP 16 rw_Tape rfl 4 (by decide) (hts _ nf_X3_takeWord_f12) (fun _ h9 => h9) rfl dX3_takeWord_97 ?_
              refine va_get (D := D) (ci := 0) (v := .int (st_i S_8 (3 * 2 + 2))) (C := RX0) (T := TX0) (N := 5) hx hb hts ni_X3_takeWord_X0 hown hK hP 2 (rw_Book (by decide : 2 < 13)) rfl 2 (by decide) (hts _ nf_X3_takeWord_f87) (fun _ h9 => h9) rfl dX3_takeWord_100 ?_
              refine lv_bipush (v := 18) hx hb dX3_takeWord_103 (by decide) ?_
              refine lv_icmp_ge (tgt := 116) hx hb dX3_takeWord_105 (by decide) (fun c_11 => ?_) (fun c_11 => ?_)
              · have h := ob_t c_11 h
                refine lv_iconst (v := 3) hx hb dX3_takeWord_116 (by decide) ?_
                obtain ⟨rfl, rfl⟩ := ob_w h
                exact km_iret C hP hD hS dX3_takeWord_117
              · have h := ob_f c_11 h
                refine lv_aload_n hx hb dX3_takeWord_108 rfl (lv_at hl 0 rfl) ?_
                refine lv_iconst (v := 4) hx hb dX3_takeWord_109 (by decide) ?_
                obtain ⟨r_13, S_14, hc_12, h⟩ := ob_2s h
                refine km_cVi (As := [.int (4 : Int32)]) (rest := []) C (kX3_goOn hEE hc_12) (cwV 1 hts gX3_takeWord_X3_goOn rfl rfl rfl (by decide +kernel) ⟨(Nat.le_of_ble_eq_true rfl), (Nat.le_of_ble_eq_true rfl)⟩) rw_Tape rfl rfl rfl hP hD hS hl.1 rfl (Nat.le_of_ble_eq_true rfl) dX3_takeWord_110 (fun H locs hP hD hS => ?_)
                refine lv_goto (tgt := 117) hx hb dX3_takeWord_113 (by decide) ?_
                obtain ⟨rfl, rfl⟩ := ob_w h
                exact km_iret C hP hD hS dX3_takeWord_117
        refine lv_icmp_ne (tgt := 77) hx hb dX3_takeWord_65 (by decide) (fun c_16 => ?_) (fun c_16 => ?_)
        · have h := ob_f c_16 h
          exact kJ_7  _ h _ _ _ hP hD hS (lv_sub hl [0] rfl)
        · have h := ob_t c_16 h
          refine lv_iload_n hx hb dX3_takeWord_68 rfl (lv_at hl 1 rfl) ?_
          refine lv_if_ne (tgt := 77) hx hb dX3_takeWord_69 (by decide) (fun c_17 => ?_) (fun c_17 => ?_)
          · have h := ob_f c_17 h
            exact kJ_7  _ h _ _ _ hP hD hS (lv_sub hl [0] rfl)
          · have h := ob_t c_17 h
            refine lv_aload_n hx hb dX3_takeWord_72 rfl (lv_at hl 0 rfl) ?_
            obtain ⟨r_19, S_20, hc_18, h⟩ := ob_2s h
            refine km_cVi (As := []) (rest := []) C (kX3_takeHome hEE hc_18) (cwV 0 hts gX3_takeWord_X3_takeHome rfl rfl rfl (by decide +kernel) ⟨(Nat.le_of_ble_eq_true rfl), (Nat.le_of_ble_eq_true rfl)⟩) rw_Tape rfl rfl rfl hP hD hS hl.1 rfl (Nat.le_of_ble_eq_true rfl) dX3_takeWord_73 (fun H locs hP hD hS => ?_)
            obtain ⟨rfl, rfl⟩ := ob_w h
            exact km_iret C hP hD hS dX3_takeWord_76
      refine lv_icmp_ne (tgt := 59) hx hb dX3_takeWord_36 (by decide) (fun c_22 => ?_) (fun c_22 => ?_)
      · have h := ob_f c_22 h
        exact kJ_5  _ h _ _ _ hP hD hS (lv_sub hl [0, 1] rfl)
      · have h := ob_t c_22 h
        refine lv_iload_n hx hb dX3_takeWord_39 rfl (lv_at hl 1 rfl) ?_
        refine lv_if_ne (tgt := 59) hx hb dX3_takeWord_40 (by decide) (fun c_23 => ?_) (fun c_23 => ?_)
        · have h := ob_f c_23 h
          exact kJ_5  _ h _ _ _ hP hD hS (lv_sub hl [0, 1] rfl)
        · have h := ob_t c_23 h
          refine lv_aload_n hx hb dX3_takeWord_43 rfl (lv_at hl 0 rfl) ?_
          refine va_get (D := D) (ci := 3) (v := .ref (ad 2)) (C := RX3) (T := TX3) (N := 11) hx hb hts ni_X3_takeWord_X3 hown hK hP 16 rw_Tape rfl 4 (by decide) (hts _ nf_X3_takeWord_f12) (fun _ h9 => h9) rfl dX3_takeWord_44 ?_
          refine va_get (D := D) (ci := 0) (v := .int (st_i S_4 (3 * 2 + 1))) (C := RX0) (T := TX0) (N := 5) hx hb hts ni_X3_takeWord_X0 hown hK hP 2 (rw_Book (by decide : 2 < 13)) rfl 1 (by decide) (hts _ nf_X3_takeWord_f81) (fun _ h9 => h9) rfl dX3_takeWord_47 ?_
          refine lv_if_ne (tgt := 59) hx hb dX3_takeWord_50 (by decide) (fun c_24 => ?_) (fun c_24 => ?_)
          · have h := ob_f c_24 h
            exact kJ_5  _ h _ _ _ hP hD hS (lv_sub hl [0, 1] rfl)
          · have h := ob_t c_24 h
            refine lv_aload_n hx hb dX3_takeWord_53 rfl (lv_at hl 0 rfl) ?_
            refine lv_iconst (v := 2) hx hb dX3_takeWord_54 (by decide) ?_
            obtain ⟨r_26, S_27, hc_25, h⟩ := ob_2s h
            refine km_cVi (As := [.int (2 : Int32)]) (rest := []) C (kX3_goOn hEE hc_25) (cwV 1 hts gX3_takeWord_X3_goOn rfl rfl rfl (by decide +kernel) ⟨(Nat.le_of_ble_eq_true rfl), (Nat.le_of_ble_eq_true rfl)⟩) rw_Tape rfl rfl rfl hP hD hS hl.1 rfl (Nat.le_of_ble_eq_true rfl) dX3_takeWord_55 (fun H locs hP hD hS => ?_)
            obtain ⟨rfl, rfl⟩ := ob_w h
            exact km_iret C hP hD hS dX3_takeWord_58
    refine lv_icmp_ne (tgt := 31) hx hb dX3_takeWord_18 (by decide) (fun c_29 => ?_) (fun c_29 => ?_)
    · have h := ob_f c_29 h
      exact kJ_3  _ h _ _ _ hP hD hS (lv_sub hl [1, 0] rfl)
    · have h := ob_t c_29 h
      refine lv_iload_n hx hb dX3_takeWord_21 rfl (lv_at hl 0 rfl) ?_
      refine lv_if_eq (tgt := 31) hx hb dX3_takeWord_22 (by decide) (fun c_30 => ?_) (fun c_30 => ?_)
      · have h := ob_t c_30 h
        exact kJ_3  _ h _ _ _ hP hD hS (lv_sub hl [1, 0] rfl)
      · have h := ob_f c_30 h
        refine lv_aload_n hx hb dX3_takeWord_25 rfl (lv_at hl 1 rfl) ?_
        refine lv_iconst (v := 1) hx hb dX3_takeWord_26 (by decide) ?_
        obtain ⟨r_32, S_33, hc_31, h⟩ := ob_2s h
        refine km_cVi (As := [.int (1 : Int32)]) (rest := []) C (kX3_goOn hEE hc_31) (cwV 1 hts gX3_takeWord_X3_goOn rfl rfl rfl (by decide +kernel) ⟨(Nat.le_of_ble_eq_true rfl), (Nat.le_of_ble_eq_true rfl)⟩) rw_Tape rfl rfl rfl hP hD hS hl.1 rfl (Nat.le_of_ble_eq_true rfl) dX3_takeWord_27 (fun H locs hP hD hS => ?_)
        obtain ⟨rfl, rfl⟩ := ob_w h
        exact km_iret C hP hD hS dX3_takeWord_30
  refine lv_if_ne (tgt := 11) hx hb dX3_takeWord_4 (by decide) (fun c_35 => ?_) (fun c_35 => ?_)
  · have h := ob_f c_35 h
    refine lv_iconst (v := 0) hx hb dX3_takeWord_11 (by decide) ?_
    exact kJ_1 _ _ h _ _ _ hP hD hS (lv_sub hl [0] rfl)
  · have h := ob_t c_35 h
    refine lv_iconst (v := 1) hx hb dX3_takeWord_7 (by decide) ?_
    refine lv_goto (tgt := 12) hx hb dX3_takeWord_8 (by decide) ?_
    exact kJ_1 _ _ h _ _ _ hP hD hS (lv_sub hl [0] rfl)
def fX3_take (S : RSt) : Option (Int32 × RSt) := (if (st_i S 50) = 0 then (if (st_i S 52) = 0 then (if (st_i S 47) ≤ 0 then (some ((1 : Int32), S)) else (if (500 : Int32) < (st_i S 45) then (some ((1 : Int32), S)) else (some ((0 : Int32), S)))) else (some ((1 : Int32), S))) else (if (st_i S 52) = 0 then (ob_2 (fX3_takeWord S) fun r_28 S_29 => (some (r_28, S_29))) else (if (st_i S 52) = (6 : Int32) then (ob_2 (fX3_takeSemicolon S) fun r_25 S_26 => (some (r_25, S_26))) else (if (st_i S 50) = (2 : Int32) then (if (st_i S 52) = (1 : Int32) then (ob_2 (fX3_takeMonths S) fun r_7 S_8 => (some (r_7, S_8))) else (if (st_i S 52) = (2 : Int32) then (ob_2 (fX3_takeGap S) fun r_11 S_12 => (some (r_11, S_12))) else (if (st_i S 52) = (3 : Int32) then (ob_2 (fX3_takeWeight S) fun r_15 S_16 => (some (r_15, S_16))) else (if (st_i S 52) = (4 : Int32) then (ob_2 (fX3_takeMonth S) fun r_19 S_20 => (some (r_19, S_20))) else (ob_2 (fX3_takeLevel S) fun r_22 S_23 => (some (r_22, S_23))))))) else (some ((1 : Int32), S))))))
abbrev rmX3_take : Room := { frames := 4, cells := 0, slots := 0, locals := 87 }
theorem nf_X3_take_f46 : Cond.fieldLink RX3 46 "RepeatIndex$Tape" "kind" "I" ∈ wsX3_take := by decide +kernel
theorem ni_X3_take_X3 : ∀ w ∈ u_ws RX3 TX3 11, w ∈ wsX3_take := by decide +kernel
theorem nf_X3_take_f40 : Cond.fieldLink RX3 40 "RepeatIndex$Tape" "due" "I" ∈ wsX3_take := by decide +kernel
theorem nf_X3_take_f34 : Cond.fieldLink RX3 34 "RepeatIndex$Tape" "lines" "I" ∈ wsX3_take := by decide +kernel
theorem nf_X3_take_f22 : Cond.fieldLink RX3 22 "RepeatIndex$Tape" "length" "I" ∈ wsX3_take := by decide +kernel
set_option maxHeartbeats 4000000 in
set_option maxRecDepth 100000 in
theorem kX3_take {l : Launch} {D : va_G} {cy : Nat → ClassId} {ad : Nat → Nat} {E : ke_T} (hEE : km_E E) {S : RSt} {r : Int32} {S' : RSt} (h : fX3_take S = some (r, S')) : km_i l D (rw_t cy) (rw_w cy ad) E yX3_take wsX3_take rmX3_take [.ref (ad 16)] S r S' := by
  refine km_i_in (cc := cX3_take) (nL := 1) hEE (by decide) rfl (Nat.le_of_ble_eq_true rfl) ?_
  intro p e s m below meth c A H ls C hP hD hS hl
  have C : km_C p s m _ meth c cX3_take 1 RX3 wsX3_take (some .int) D (rw_t cy) E A := C
  obtain ⟨⟨hx, hb, hml, hown, hts⟩, hr, hlk, hK, hA, hE, hEE⟩ := id C
  have hl : lv_has ls 1 [(0, .ref (ad 16))] := hl
  unfold fX3_take at h
  refine lv_aload_n hx hb dX3_take_0 rfl (lv_at hl 0 rfl) ?_
  refine va_get (D := D) (ci := 3) (v := .int (st_i S 50)) (C := RX3) (T := TX3) (N := 11) hx hb hts ni_X3_take_X3 hown hK hP 16 rw_Tape rfl 7 (by decide) (hts _ nf_X3_take_f46) (fun _ h9 => h9) rfl dX3_take_1 ?_
  refine lv_if_ne (tgt := 37) hx hb dX3_take_4 (by decide) (fun c_1 => ?_) (fun c_1 => ?_)
  · have h := ob_f c_1 h
    refine lv_aload_n hx hb dX3_take_37 rfl (lv_at hl 0 rfl) ?_
    refine va_get (D := D) (ci := 3) (v := .int (st_i S 52)) (C := RX3) (T := TX3) (N := 11) hx hb hts ni_X3_take_X3 hown hK hP 16 rw_Tape rfl 9 (by decide) (hts _ nf_X3_take_f40) (fun _ h9 => h9) rfl dX3_take_38 ?_
    refine lv_if_ne (tgt := 49) hx hb dX3_take_41 (by decide) (fun c_2 => ?_) (fun c_2 => ?_)
    · have h := ob_f c_2 h
      refine lv_aload_n hx hb dX3_take_49 rfl (lv_at hl 0 rfl) ?_
      refine va_get (D := D) (ci := 3) (v := .int (st_i S 52)) (C := RX3) (T := TX3) (N := 11) hx hb hts ni_X3_take_X3 hown hK hP 16 rw_Tape rfl 9 (by decide) (hts _ nf_X3_take_f40) (fun _ h9 => h9) rfl dX3_take_50 ?_
      refine lv_bipush (v := 6) hx hb dX3_take_53 (by decide) ?_
      refine lv_icmp_ne (tgt := 63) hx hb dX3_take_55 (by decide) (fun c_3 => ?_) (fun c_3 => ?_)
      · have h := ob_f c_3 h
        refine lv_aload_n hx hb dX3_take_63 rfl (lv_at hl 0 rfl) ?_
        refine va_get (D := D) (ci := 3) (v := .int (st_i S 50)) (C := RX3) (T := TX3) (N := 11) hx hb hts ni_X3_take_X3 hown hK hP 16 rw_Tape rfl 7 (by decide) (hts _ nf_X3_take_f46) (fun _ h9 => h9) rfl dX3_take_64 ?_
        refine lv_iconst (v := 2) hx hb dX3_take_67 (by decide) ?_
        refine lv_icmp_eq (tgt := 73) hx hb dX3_take_68 (by decide) (fun c_4 => ?_) (fun c_4 => ?_)
        · have h := ob_t c_4 h
          refine lv_aload_n hx hb dX3_take_73 rfl (lv_at hl 0 rfl) ?_
          refine va_get (D := D) (ci := 3) (v := .int (st_i S 52)) (C := RX3) (T := TX3) (N := 11) hx hb hts ni_X3_take_X3 hown hK hP 16 rw_Tape rfl 9 (by decide) (hts _ nf_X3_take_f40) (fun _ h9 => h9) rfl dX3_take_74 ?_
          by_cases c_5 : (st_i S 52) = (1 : Int32)
          · have h := ob_t c_5 h
            refine lv_tableIn (tgt := 108) (off := 31) hx hb dX3_take_77 (by rw [c_5]; decide) (by rw [c_5]; decide) (by rw [c_5]; decide) (by decide) ?_
            refine lv_aload_n hx hb dX3_take_108 rfl (lv_at hl 0 rfl) ?_
            obtain ⟨r_7, S_8, hc_6, h⟩ := ob_2s h
            refine km_cVi (As := []) (rest := []) C (kX3_takeMonths hEE hc_6) (cwV 0 hts gX3_take_X3_takeMonths rfl rfl rfl (by decide +kernel) ⟨(Nat.le_of_ble_eq_true rfl), (Nat.le_of_ble_eq_true rfl)⟩) rw_Tape rfl rfl rfl hP hD hS hl.1 rfl (Nat.le_of_ble_eq_true rfl) dX3_take_109 (fun H locs hP hD hS => ?_)
            obtain ⟨rfl, rfl⟩ := ob_w h
            exact km_iret C hP hD hS dX3_take_112
          have h := ob_f c_5 h
          by_cases c_9 : (st_i S 52) = (2 : Int32)
          · have h := ob_t c_9 h
            refine lv_tableIn (tgt := 113) (off := 36) hx hb dX3_take_77 (by rw [c_9]; decide) (by rw [c_9]; decide) (by rw [c_9]; decide) (by decide) ?_
            refine lv_aload_n hx hb dX3_take_113 rfl (lv_at hl 0 rfl) ?_
            obtain ⟨r_11, S_12, hc_10, h⟩ := ob_2s h
            refine km_cVi (As := []) (rest := []) C (kX3_takeGap hEE hc_10) (cwV 0 hts gX3_take_X3_takeGap rfl rfl rfl (by decide +kernel) ⟨(Nat.le_of_ble_eq_true rfl), (Nat.le_of_ble_eq_true rfl)⟩) rw_Tape rfl rfl rfl hP hD hS hl.1 rfl (Nat.le_of_ble_eq_true rfl) dX3_take_114 (fun H locs hP hD hS => ?_)
            obtain ⟨rfl, rfl⟩ := ob_w h
            exact km_iret C hP hD hS dX3_take_117
          have h := ob_f c_9 h
          by_cases c_13 : (st_i S 52) = (3 : Int32)
          · have h := ob_t c_13 h
            refine lv_tableIn (tgt := 118) (off := 41) hx hb dX3_take_77 (by rw [c_13]; decide) (by rw [c_13]; decide) (by rw [c_13]; decide) (by decide) ?_
            refine lv_aload_n hx hb dX3_take_118 rfl (lv_at hl 0 rfl) ?_
            obtain ⟨r_15, S_16, hc_14, h⟩ := ob_2s h
            refine km_cVi (As := []) (rest := []) C (kX3_takeWeight hEE hc_14) (cwV 0 hts gX3_take_X3_takeWeight rfl rfl rfl (by decide +kernel) ⟨(Nat.le_of_ble_eq_true rfl), (Nat.le_of_ble_eq_true rfl)⟩) rw_Tape rfl rfl rfl hP hD hS hl.1 rfl (Nat.le_of_ble_eq_true rfl) dX3_take_119 (fun H locs hP hD hS => ?_)
            obtain ⟨rfl, rfl⟩ := ob_w h
            exact km_iret C hP hD hS dX3_take_122
          have h := ob_f c_13 h
          by_cases c_17 : (st_i S 52) = (4 : Int32)
          · have h := ob_t c_17 h
            refine lv_tableIn (tgt := 123) (off := 46) hx hb dX3_take_77 (by rw [c_17]; decide) (by rw [c_17]; decide) (by rw [c_17]; decide) (by decide) ?_
            refine lv_aload_n hx hb dX3_take_123 rfl (lv_at hl 0 rfl) ?_
            obtain ⟨r_19, S_20, hc_18, h⟩ := ob_2s h
            refine km_cVi (As := []) (rest := []) C (kX3_takeMonth hEE hc_18) (cwV 0 hts gX3_take_X3_takeMonth rfl rfl rfl (by decide +kernel) ⟨(Nat.le_of_ble_eq_true rfl), (Nat.le_of_ble_eq_true rfl)⟩) rw_Tape rfl rfl rfl hP hD hS hl.1 rfl (Nat.le_of_ble_eq_true rfl) dX3_take_124 (fun H locs hP hD hS => ?_)
            obtain ⟨rfl, rfl⟩ := ob_w h
            exact km_iret C hP hD hS dX3_take_127
          have h := ob_f c_17 h
          refine lv_tableOut (tgt := 128) hx hb dX3_take_77 (by have z := sw_no ((st_i S 52)); have z0 := sw_ne c_5 (z := 1) (by decide); have z1 := sw_ne c_9 (z := 2) (by decide); have z2 := sw_ne c_13 (z := 3) (by decide); have z3 := sw_ne c_17 (z := 4) (by decide); omega) (by decide) ?_
          refine lv_aload_n hx hb dX3_take_128 rfl (lv_at hl 0 rfl) ?_
          obtain ⟨r_22, S_23, hc_21, h⟩ := ob_2s h
          refine km_cVi (As := []) (rest := []) C (kX3_takeLevel hEE hc_21) (cwV 0 hts gX3_take_X3_takeLevel rfl rfl rfl (by decide +kernel) ⟨(Nat.le_of_ble_eq_true rfl), (Nat.le_of_ble_eq_true rfl)⟩) rw_Tape rfl rfl rfl hP hD hS hl.1 rfl (Nat.le_of_ble_eq_true rfl) dX3_take_129 (fun H locs hP hD hS => ?_)
          obtain ⟨rfl, rfl⟩ := ob_w h
          exact km_iret C hP hD hS dX3_take_132
        · have h := ob_f c_4 h
          refine lv_iconst (v := 1) hx hb dX3_take_71 (by decide) ?_
          obtain ⟨rfl, rfl⟩ := ob_w h
          exact km_iret C hP hD hS dX3_take_72
      · have h := ob_t c_3 h
        refine lv_aload_n hx hb dX3_take_58 rfl (lv_at hl 0 rfl) ?_
        obtain ⟨r_25, S_26, hc_24, h⟩ := ob_2s h
        refine km_cVi (As := []) (rest := []) C (kX3_takeSemicolon hEE hc_24) (cwV 0 hts gX3_take_X3_takeSemicolon rfl rfl rfl (by decide +kernel) ⟨(Nat.le_of_ble_eq_true rfl), (Nat.le_of_ble_eq_true rfl)⟩) rw_Tape rfl rfl rfl hP hD hS hl.1 rfl (Nat.le_of_ble_eq_true rfl) dX3_take_59 (fun H locs hP hD hS => ?_)
        obtain ⟨rfl, rfl⟩ := ob_w h
        exact km_iret C hP hD hS dX3_take_62
    · have h := ob_t c_2 h
      refine lv_aload_n hx hb dX3_take_44 rfl (lv_at hl 0 rfl) ?_
      obtain ⟨r_28, S_29, hc_27, h⟩ := ob_2s h
      refine km_cVi (As := []) (rest := []) C (kX3_takeWord hEE hc_27) (cwV 0 hts gX3_take_X3_takeWord rfl rfl rfl (by decide +kernel) ⟨(Nat.le_of_ble_eq_true rfl), (Nat.le_of_ble_eq_true rfl)⟩) rw_Tape rfl rfl rfl hP hD hS hl.1 rfl (Nat.le_of_ble_eq_true rfl) dX3_take_45 (fun H locs hP hD hS => ?_)
      obtain ⟨rfl, rfl⟩ := ob_w h
      exact km_iret C hP hD hS dX3_take_48
  · have h := ob_t c_1 h
    refine lv_aload_n hx hb dX3_take_7 rfl (lv_at hl 0 rfl) ?_
    refine va_get (D := D) (ci := 3) (v := .int (st_i S 52)) (C := RX3) (T := TX3) (N := 11) hx hb hts ni_X3_take_X3 hown hK hP 16 rw_Tape rfl 9 (by decide) (hts _ nf_X3_take_f40) (fun _ h9 => h9) rfl dX3_take_8 ?_
    refine lv_if_ne (tgt := 35) hx hb dX3_take_11 (by decide) (fun c_30 => ?_) (fun c_30 => ?_)
    · have h := ob_f c_30 h
      refine lv_iconst (v := 1) hx hb dX3_take_35 (by decide) ?_
      obtain ⟨rfl, rfl⟩ := ob_w h
      exact km_iret C hP hD hS dX3_take_36
    · have h := ob_t c_30 h
      refine lv_aload_n hx hb dX3_take_14 rfl (lv_at hl 0 rfl) ?_
      refine va_get (D := D) (ci := 3) (v := .int (st_i S 47)) (C := RX3) (T := TX3) (N := 11) hx hb hts ni_X3_take_X3 hown hK hP 16 rw_Tape rfl 2 (by decide) (hts _ nf_X3_take_f34) (fun _ h9 => h9) rfl dX3_take_15 ?_
      refine lv_if_le (tgt := 35) hx hb dX3_take_18 (by decide) (fun c_31 => ?_) (fun c_31 => ?_)
      · have h := ob_t c_31 h
        refine lv_iconst (v := 1) hx hb dX3_take_35 (by decide) ?_
        obtain ⟨rfl, rfl⟩ := ob_w h
        exact km_iret C hP hD hS dX3_take_36
      · have h := ob_f c_31 h
        refine lv_aload_n hx hb dX3_take_21 rfl (lv_at hl 0 rfl) ?_
        refine va_get (D := D) (ci := 3) (v := .int (st_i S 45)) (C := RX3) (T := TX3) (N := 11) hx hb hts ni_X3_take_X3 hown hK hP 16 rw_Tape rfl 0 (by decide) (hts _ nf_X3_take_f22) (fun _ h9 => h9) rfl dX3_take_22 ?_
        refine lv_sipush (v := 500) hx hb dX3_take_25 (by decide) ?_
        refine lv_icmp_gt (tgt := 35) hx hb dX3_take_28 (by decide) (fun c_32 => ?_) (fun c_32 => ?_)
        · have h := ob_t c_32 h
          refine lv_iconst (v := 1) hx hb dX3_take_35 (by decide) ?_
          obtain ⟨rfl, rfl⟩ := ob_w h
          exact km_iret C hP hD hS dX3_take_36
        · have h := ob_f c_32 h
          refine lv_iconst (v := 0) hx hb dX3_take_31 (by decide) ?_
          refine lv_goto (tgt := 36) hx hb dX3_take_32 (by decide) ?_
          obtain ⟨rfl, rfl⟩ := ob_w h
          exact km_iret C hP hD hS dX3_take_36
def fX3_isDigit (x0 : Int32) (S : RSt) : Option (Int32 × RSt) := (if x0 < (48 : Int32) then (some ((0 : Int32), S)) else (if (57 : Int32) < x0 then (some ((0 : Int32), S)) else (some ((1 : Int32), S))))
abbrev rmX3_isDigit : Room := { frames := 0, cells := 0, slots := 0, locals := 0 }
set_option maxHeartbeats 4000000 in
set_option maxRecDepth 100000 in
theorem kX3_isDigit {l : Launch} {D : va_G} {cy : Nat → ClassId} {ad : Nat → Nat} {E : ke_T} (hEE : km_E E) {x0 : Int32} {S : RSt} {r : Int32} {S' : RSt} (h : fX3_isDigit x0 S = some (r, S')) : km_z l D (rw_t cy) (rw_w cy ad) E yX3_isDigit wsX3_isDigit rmX3_isDigit [.int x0] S r S' := by
  refine km_z_in (cc := cX3_isDigit) (nL := 1) hEE (by decide) rfl (Nat.le_of_ble_eq_true rfl) ?_
  intro p e s m below meth c A H ls C hP hD hS hl
  have C : km_C p s m _ meth c cX3_isDigit 1 RX3 wsX3_isDigit (some .boolean) D (rw_t cy) E A := C
  obtain ⟨⟨hx, hb, hml, hown, hts⟩, hr, hlk, hK, hA, hE, hEE⟩ := id C
  have hl : lv_has ls 1 [(0, .int x0)] := hl
  unfold fX3_isDigit at h
  refine lv_iload_n hx hb dX3_isDigit_0 rfl (lv_at hl 0 rfl) ?_
  refine lv_bipush (v := 48) hx hb dX3_isDigit_1 (by decide) ?_
  refine lv_icmp_lt (tgt := 16) hx hb dX3_isDigit_3 (by decide) (fun c_1 => ?_) (fun c_1 => ?_)
  · have h := ob_t c_1 h
    refine lv_iconst (v := 0) hx hb dX3_isDigit_16 (by decide) ?_
    obtain ⟨rfl, rfl⟩ := ob_w h
    exact km_zret C (by decide) hP hD hS dX3_isDigit_17
  · have h := ob_f c_1 h
    refine lv_iload_n hx hb dX3_isDigit_6 rfl (lv_at hl 0 rfl) ?_
    refine lv_bipush (v := 57) hx hb dX3_isDigit_7 (by decide) ?_
    refine lv_icmp_gt (tgt := 16) hx hb dX3_isDigit_9 (by decide) (fun c_2 => ?_) (fun c_2 => ?_)
    · have h := ob_t c_2 h
      refine lv_iconst (v := 0) hx hb dX3_isDigit_16 (by decide) ?_
      obtain ⟨rfl, rfl⟩ := ob_w h
      exact km_zret C (by decide) hP hD hS dX3_isDigit_17
    · have h := ob_f c_2 h
      refine lv_iconst (v := 1) hx hb dX3_isDigit_12 (by decide) ?_
      refine lv_goto (tgt := 17) hx hb dX3_isDigit_13 (by decide) ?_
      obtain ⟨rfl, rfl⟩ := ob_w h
      exact km_zret C (by decide) hP hD hS dX3_isDigit_17
def fX3_isOfRun (x0 : Int32) (S : RSt) : Option (Int32 × RSt) := (ob_j (fun (S_2 : RSt) => (ob_2 (fX3_isDigit x0 S_2) fun r_4 S_5 => (if r_4 = 0 then (some ((0 : Int32), S_5)) else (some ((1 : Int32), S_5))))) fun tJ_1 => (if x0 < (97 : Int32) then (tJ_1 S) else (if x0 ≤ (122 : Int32) then (some ((1 : Int32), S)) else (tJ_1 S))))
abbrev rmX3_isOfRun : Room := { frames := 1, cells := 0, slots := 0, locals := 20 }
set_option maxHeartbeats 4000000 in
set_option maxRecDepth 100000 in
theorem kX3_isOfRun {l : Launch} {D : va_G} {cy : Nat → ClassId} {ad : Nat → Nat} {E : ke_T} (hEE : km_E E) {x0 : Int32} {S : RSt} {r : Int32} {S' : RSt} (h : fX3_isOfRun x0 S = some (r, S')) : km_z l D (rw_t cy) (rw_w cy ad) E yX3_isOfRun wsX3_isOfRun rmX3_isOfRun [.int x0] S r S' := by
  refine km_z_in (cc := cX3_isOfRun) (nL := 1) hEE (by decide) rfl (Nat.le_of_ble_eq_true rfl) ?_
  intro p e s m below meth c A H ls C hP hD hS hl
  have C : km_C p s m _ meth c cX3_isOfRun 1 RX3 wsX3_isOfRun (some .boolean) D (rw_t cy) E A := C
  obtain ⟨⟨hx, hb, hml, hown, hts⟩, hr, hlk, hK, hA, hE, hEE⟩ := id C
  have hl : lv_has ls 1 [(0, .int x0)] := hl
  unfold fX3_isOfRun at h
  refine lv_iload_n hx hb dX3_isOfRun_0 rfl (lv_at hl 0 rfl) ?_
  refine lv_bipush (v := 97) hx hb dX3_isOfRun_1 (by decide) ?_
  obtain ⟨tJ_1, hT_8, h⟩ := ob_js h
  have kJ_1 : ∀ (S_2 : RSt) (_ : tJ_1 S_2 = some (r, S')) (H : Heap) (locs : List Loc) (ls : Array Slot), va_P D vwCl ((rw_w cy ad) S_2) H → va_D A ((rw_w cy ad) S_2) → va_S A s.heap H locs → lv_has ls 1 [(0, .int x0)] → W p l e rmX3_isOfRun s m ([.int x0] : List Value).toArray below meth c H locs 0 0 (km_Qz below D (rw_t cy) (rw_w cy ad) A ([.int x0] : List Value).toArray s r S') (F0 m 12 ls []) := by
    intro S_2 h H locs ls hP hD hS hl
    rw [← hT_8] at h
    refine lv_iload_n hx hb dX3_isOfRun_12 rfl (lv_at hl 0 rfl) ?_
    obtain ⟨r_4, S_5, hc_3, h⟩ := ob_2s h
    refine km_cSz (As := [.int x0]) (rest := []) C (kX3_isDigit hEE hc_3) (va_cwS 1 hts gX3_isOfRun_X3_isDigit rfl rfl rfl (by decide +kernel) ⟨(Nat.le_of_ble_eq_true rfl), (Nat.le_of_ble_eq_true rfl)⟩) rfl hP hD hS hl.1 rfl (Nat.le_of_ble_eq_true rfl) dX3_isOfRun_13 (fun H locs hP hD hS hz_6 => ?_)
    refine lv_if_eq (tgt := 23) hx hb dX3_isOfRun_16 (by decide) (fun c_7 => ?_) (fun c_7 => ?_)
    · have h := ob_t c_7 h
      refine lv_iconst (v := 0) hx hb dX3_isOfRun_23 (by decide) ?_
      obtain ⟨rfl, rfl⟩ := ob_w h
      exact km_zret C (by decide) hP hD hS dX3_isOfRun_24
    · have h := ob_f c_7 h
      refine lv_iconst (v := 1) hx hb dX3_isOfRun_19 (by decide) ?_
      refine lv_goto (tgt := 24) hx hb dX3_isOfRun_20 (by decide) ?_
      obtain ⟨rfl, rfl⟩ := ob_w h
      exact km_zret C (by decide) hP hD hS dX3_isOfRun_24
  refine lv_icmp_lt (tgt := 12) hx hb dX3_isOfRun_3 (by decide) (fun c_9 => ?_) (fun c_9 => ?_)
  · have h := ob_t c_9 h
    exact kJ_1  _ h _ _ _ hP hD hS (lv_sub hl [0] rfl)
  · have h := ob_f c_9 h
    refine lv_iload_n hx hb dX3_isOfRun_6 rfl (lv_at hl 0 rfl) ?_
    refine lv_bipush (v := 122) hx hb dX3_isOfRun_7 (by decide) ?_
    refine lv_icmp_le (tgt := 19) hx hb dX3_isOfRun_9 (by decide) (fun c_10 => ?_) (fun c_10 => ?_)
    · have h := ob_t c_10 h
      refine lv_iconst (v := 1) hx hb dX3_isOfRun_19 (by decide) ?_
      refine lv_goto (tgt := 24) hx hb dX3_isOfRun_20 (by decide) ?_
      obtain ⟨rfl, rfl⟩ := ob_w h
      exact km_zret C (by decide) hP hD hS dX3_isOfRun_24
    · have h := ob_f c_10 h
      exact kJ_1  _ h _ _ _ hP hD hS (lv_sub hl [0] rfl)
def fX3_skipBlanks_L0 : Nat → RSt → Option (RSt)
  | 0, _ => none
  | n + 1, S => (if (st_i S 45) ≤ (st_i S 49) then (some S) else (ob_in (st_i S 49) 540 (ob_j (fun (S_4 : RSt) => (fX3_skipBlanks_L0 n  (st_si S_4 49 ((st_i S_4 49) + (1 : Int32))))) fun tJ_3 => (if (st_a S 112 (st_i S 49).toNatClampNeg) = (32 : Int32) then (tJ_3 S) else (ob_in (st_i S 49) 540 (if (st_a S 112 (st_i S 49).toNatClampNeg) = (10 : Int32) then (tJ_3 S) else (some S)))))))
def fX3_skipBlanks (S : RSt) : Option (RSt) := (ob_1 (fX3_skipBlanks_L0 1000  S) fun S_10 => (some S_10))
abbrev rmX3_skipBlanks : Room := { frames := 0, cells := 0, slots := 0, locals := 0 }
theorem nf_X3_skipBlanks_f37 : Cond.fieldLink RX3 37 "RepeatIndex$Tape" "at" "I" ∈ wsX3_skipBlanks := by decide +kernel
theorem ni_X3_skipBlanks_X3 : ∀ w ∈ u_ws RX3 TX3 11, w ∈ wsX3_skipBlanks := by decide +kernel
theorem nf_X3_skipBlanks_f22 : Cond.fieldLink RX3 22 "RepeatIndex$Tape" "length" "I" ∈ wsX3_skipBlanks := by decide +kernel
theorem nf_X3_skipBlanks_f18 : Cond.fieldLink RX3 18 "RepeatIndex$Tape" "bytes" "[B" ∈ wsX3_skipBlanks := by decide +kernel
set_option maxHeartbeats 4000000 in
set_option maxRecDepth 100000 in
theorem kX3_skipBlanks_L0 {l : Launch} {D : va_G} {cy : Nat → ClassId} {ad : Nat → Nat} {E : ke_T} {p : Program} {e : Env} {s : State} {m : MethodId} {args : Array Value} {below : List Frame} {meth : Method} {c : Code} {A : Nat → Prop} {Q : State → Prop} (C : km_C p s m args meth c cX3_skipBlanks 1 RX3 wsX3_skipBlanks none D (rw_t cy) E A) : ∀ (n : Nat) (S : RSt) (S' : RSt) (h : fX3_skipBlanks_L0 n  S = some S') {H : Heap} {locs : List Loc} {ls : Array Slot} (hP : va_P D vwCl ((rw_w cy ad) S) H) (hD : va_D A ((rw_w cy ad) S)) (hS : va_S A s.heap H locs) (hl : lv_has ls 1 [(0, .ref (ad 16))]) (kx0 : ∀ (H : Heap) (locs : List Loc) (ls : Array Slot), va_P D vwCl ((rw_w cy ad) S') H → va_D A ((rw_w cy ad) S') → va_S A s.heap H locs → lv_has ls 1 [] → W p l e rmX3_skipBlanks s m args below meth c H locs 0 0 Q (F0 m 52 ls [])), W p l e rmX3_skipBlanks s m args below meth c H locs 0 0 Q (F0 m 0 ls []) := by
  obtain ⟨⟨hx, hb, hml, hown, hts⟩, hr, hlk, hK, hA, hE, hEE⟩ := id C
  intro n
  induction n with
  | zero =>
    intro  S S' h
    rw [fX3_skipBlanks_L0] at h
    cases h
  | succ n ih =>
    intro  S S' h H locs ls hP hD hS hl kx0
    rw [fX3_skipBlanks_L0] at h
    refine lv_aload_n hx hb dX3_skipBlanks_0 rfl (lv_at hl 0 rfl) ?_
    refine va_get (D := D) (ci := 3) (v := .int (st_i S 49)) (C := RX3) (T := TX3) (N := 11) hx hb hts ni_X3_skipBlanks_X3 hown hK hP 16 rw_Tape rfl 6 (by decide) (hts _ nf_X3_skipBlanks_f37) (fun _ h9 => h9) rfl dX3_skipBlanks_1 ?_
    refine lv_aload_n hx hb dX3_skipBlanks_4 rfl (lv_at hl 0 rfl) ?_
    refine va_get (D := D) (ci := 3) (v := .int (st_i S 45)) (C := RX3) (T := TX3) (N := 11) hx hb hts ni_X3_skipBlanks_X3 hown hK hP 16 rw_Tape rfl 0 (by decide) (hts _ nf_X3_skipBlanks_f22) (fun _ h9 => h9) rfl dX3_skipBlanks_5 ?_
    refine lv_icmp_ge (tgt := 52) hx hb dX3_skipBlanks_8 (by decide) (fun c_1 => ?_) (fun c_1 => ?_)
    · have h := ob_t c_1 h
      cases h
      exact kx0 _ _ _ hP hD hS (lv_sub hl [] rfl)
    · have h := ob_f c_1 h
      refine lv_aload_n hx hb dX3_skipBlanks_11 rfl (lv_at hl 0 rfl) ?_
      refine va_get (D := D) (ci := 3) (v := .ref (ad 155)) (C := RX3) (T := TX3) (N := 11) hx hb hts ni_X3_skipBlanks_X3 hown hK hP 16 rw_Tape rfl 5 (by decide) (hts _ nf_X3_skipBlanks_f18) (fun _ h9 => h9) rfl dX3_skipBlanks_12 ?_
      refine lv_aload_n hx hb dX3_skipBlanks_15 rfl (lv_at hl 0 rfl) ?_
      refine va_get (D := D) (ci := 3) (v := .int (st_i S 49)) (C := RX3) (T := TX3) (N := 11) hx hb hts ni_X3_skipBlanks_X3 hown hK hP 16 rw_Tape rfl 6 (by decide) (hts _ nf_X3_skipBlanks_f37) (fun _ h9 => h9) rfl dX3_skipBlanks_16 ?_
      obtain ⟨hv_2, h⟩ := ob_in_s h
      refine va_bald hx hb hK hP 155 2 rw_bytes rfl hv_2 dX3_skipBlanks_19 ?_
      refine lv_bipush (v := 32) hx hb dX3_skipBlanks_20 (by decide) ?_
      obtain ⟨tJ_3, hT_5, h⟩ := ob_js h
      have kJ_3 : ∀ (S_4 : RSt) (_ : tJ_3 S_4 = some S') (H : Heap) (locs : List Loc) (ls : Array Slot), va_P D vwCl ((rw_w cy ad) S_4) H → va_D A ((rw_w cy ad) S_4) → va_S A s.heap H locs → lv_has ls 1 [(0, .ref (ad 16))] → W p l e rmX3_skipBlanks s m args below meth c H locs 0 0 Q (F0 m 39 ls []) := by
        intro S_4 h H locs ls hP hD hS hl
        rw [← hT_5] at h
        refine lv_aload_n hx hb dX3_skipBlanks_39 rfl (lv_at hl 0 rfl) ?_
        refine lv_dup hx hb dX3_skipBlanks_40 rfl ?_
        refine va_get (D := D) (ci := 3) (v := .int (st_i S_4 49)) (C := RX3) (T := TX3) (N := 11) hx hb hts ni_X3_skipBlanks_X3 hown hK hP 16 rw_Tape rfl 6 (by decide) (hts _ nf_X3_skipBlanks_f37) (fun _ h9 => h9) rfl dX3_skipBlanks_41 ?_
        refine lv_iconst (v := 1) hx hb dX3_skipBlanks_44 (by decide) ?_
        refine lv_iadd hx hb dX3_skipBlanks_45 ?_
        refine va_put (D := D) (ci := 3) (v := .int ((st_i S_4 49) + (1 : Int32))) (ty := .int) (C := RX3) (T := TX3) (N := 11) hx hb hts ni_X3_skipBlanks_X3 tyX3 tyX3_ok nmX3 hown hK hP hD hS 16 rw_Tape rfl 6 (by decide) (hts _ nf_X3_skipBlanks_f37) (fun _ h9 => h9) rfl (by decide +kernel) rfl rfl (Nat.le_of_ble_eq_true rfl) dX3_skipBlanks_46 (fun H locs hP hD hS => ?_)
        have hP := st_ps rw_s_Tape_at hP
        have hD := st_ds rw_s_Tape_at hD
        refine lv_goto (tgt := 0) hx hb dX3_skipBlanks_49 (by decide) ?_
        exact ih  _ _ h hP hD hS (lv_sub hl [0] rfl) kx0
      refine lv_icmp_eq (tgt := 39) hx hb dX3_skipBlanks_22 (by decide) (fun c_6 => ?_) (fun c_6 => ?_)
      · have h := ob_t c_6 h
        exact kJ_3  _ h _ _ _ hP hD hS (lv_sub hl [0] rfl)
      · have h := ob_f c_6 h
        refine lv_aload_n hx hb dX3_skipBlanks_25 rfl (lv_at hl 0 rfl) ?_
        refine va_get (D := D) (ci := 3) (v := .ref (ad 155)) (C := RX3) (T := TX3) (N := 11) hx hb hts ni_X3_skipBlanks_X3 hown hK hP 16 rw_Tape rfl 5 (by decide) (hts _ nf_X3_skipBlanks_f18) (fun _ h9 => h9) rfl dX3_skipBlanks_26 ?_
        refine lv_aload_n hx hb dX3_skipBlanks_29 rfl (lv_at hl 0 rfl) ?_
        refine va_get (D := D) (ci := 3) (v := .int (st_i S 49)) (C := RX3) (T := TX3) (N := 11) hx hb hts ni_X3_skipBlanks_X3 hown hK hP 16 rw_Tape rfl 6 (by decide) (hts _ nf_X3_skipBlanks_f37) (fun _ h9 => h9) rfl dX3_skipBlanks_30 ?_
        obtain ⟨hv_7, h⟩ := ob_in_s h
        refine va_bald hx hb hK hP 155 2 rw_bytes rfl hv_7 dX3_skipBlanks_33 ?_
        refine lv_bipush (v := 10) hx hb dX3_skipBlanks_34 (by decide) ?_
        refine lv_icmp_ne (tgt := 52) hx hb dX3_skipBlanks_36 (by decide) (fun c_8 => ?_) (fun c_8 => ?_)
        · have h := ob_f c_8 h
          cases h
          exact kx0 _ _ _ hP hD hS (lv_sub hl [] rfl)
        · have h := ob_t c_8 h
          exact kJ_3  _ h _ _ _ hP hD hS (lv_sub hl [0] rfl)
set_option maxHeartbeats 4000000 in
set_option maxRecDepth 100000 in
theorem kX3_skipBlanks {l : Launch} {D : va_G} {cy : Nat → ClassId} {ad : Nat → Nat} {E : ke_T} (hEE : km_E E) {S : RSt} {S' : RSt} (h : fX3_skipBlanks S = some S') : km_v l D (rw_t cy) (rw_w cy ad) E yX3_skipBlanks wsX3_skipBlanks rmX3_skipBlanks [.ref (ad 16)] S S' := by
  refine km_v_in (cc := cX3_skipBlanks) (nL := 1) hEE (by decide) rfl (Nat.le_of_ble_eq_true rfl) ?_
  intro p e s m below meth c A H ls C hP hD hS hl
  have C : km_C p s m _ meth c cX3_skipBlanks 1 RX3 wsX3_skipBlanks none D (rw_t cy) E A := C
  obtain ⟨⟨hx, hb, hml, hown, hts⟩, hr, hlk, hK, hA, hE, hEE⟩ := id C
  have hl : lv_has ls 1 [(0, .ref (ad 16))] := hl
  unfold fX3_skipBlanks at h
  obtain ⟨S_10, hq_9, h⟩ := ob_1s h
  refine kX3_skipBlanks_L0  C _  _ _ hq_9 hP hD hS (lv_sub hl [0] rfl) (fun H locs ls hP hD hS hl => ?_)
  obtain rfl := ob_v h
  exact km_vret C hP hD hS dX3_skipBlanks_52
def fX4_feed (x1 : Int32) (x2 : Int32) (x3 : Int32) (x4 : Int32) (x5 : Int32) (S : RSt) : Option (Int32 × RSt) := (ob_2 (fX3_hasRoom (20 : Int32) S) fun r_2 S_3 => (if r_2 = 0 then (some ((-1 : Int32), S_3)) else (ob_1 (fX3_addNumber x1 S_3) fun S_8 => (ob_1 (fX3_addNumber x2 S_8) fun S_11 => (ob_1 (fX3_addNumber x3 S_11) fun S_14 => (ob_1 (fX3_addNumber x4 S_14) fun S_17 => (ob_1 (fX3_addNumber x5 S_17) fun S_20 => (some (st_i S_20 45, S_20)))))))))
abbrev rmX4_feed : Room := { frames := 2, cells := 0, slots := 0, locals := 43 }
theorem nf_X4_feed_f12 : Cond.fieldLink RX4 12 "RepeatIndex" "tape" "LRepeatIndex$Tape;" ∈ wsX4_feed := by decide +kernel
theorem ni_X4_feed_X4 : ∀ w ∈ u_ws RX4 TX4 7, w ∈ wsX4_feed := by decide +kernel
theorem nf_X4_feed_f55 : Cond.fieldLink RX4 55 "RepeatIndex$Tape" "length" "I" ∈ wsX4_feed := by decide +kernel
theorem ni_X4_feed_X3 : ∀ w ∈ u_ws RX3 TX3 11, w ∈ wsX4_feed := by decide +kernel
set_option maxHeartbeats 4000000 in
set_option maxRecDepth 100000 in
theorem kX4_feed {l : Launch} {D : va_G} {cy : Nat → ClassId} {ad : Nat → Nat} {E : ke_T} (hEE : km_E E) {x1 : Int32} {x2 : Int32} {x3 : Int32} {x4 : Int32} {x5 : Int32} {S : RSt} {r : Int32} {S' : RSt} (h : fX4_feed x1 x2 x3 x4 x5 S = some (r, S')) : km_i l D (rw_t cy) (rw_w cy ad) E yX4_feed wsX4_feed rmX4_feed [.ref (ad 17), .int x1, .int x2, .int x3, .int x4, .int x5] S r S' := by
  refine km_i_in (cc := cX4_feed) (nL := 6) hEE (by decide) rfl (Nat.le_of_ble_eq_true rfl) ?_
  intro p e s m below meth c A H ls C hP hD hS hl
  have C : km_C p s m _ meth c cX4_feed 6 RX4 wsX4_feed (some .int) D (rw_t cy) E A := C
  obtain ⟨⟨hx, hb, hml, hown, hts⟩, hr, hlk, hK, hA, hE, hEE⟩ := id C
  have hl : lv_has ls 6 [(0, .ref (ad 17)), (1, .int x1), (2, .int x2), (3, .int x3), (4, .int x4), (5, .int x5)] := hl
  unfold fX4_feed at h
  refine lv_aload_n hx hb dX4_feed_0 rfl (lv_at hl 0 rfl) ?_
  refine va_get (D := D) (ci := 4) (v := .ref (ad 16)) (C := RX4) (T := TX4) (N := 7) hx hb hts ni_X4_feed_X4 hown hK hP 17 rw_Main rfl 0 (by decide) (hts _ nf_X4_feed_f12) (fun _ h9 => h9) rfl dX4_feed_1 ?_
  refine lv_bipush (v := 20) hx hb dX4_feed_4 (by decide) ?_
  obtain ⟨r_2, S_3, hc_1, h⟩ := ob_2s h
  refine km_cVz (As := [.int (20 : Int32)]) (rest := []) C (kX3_hasRoom hEE hc_1) (cwV 1 hts gX4_feed_X3_hasRoom rfl rfl rfl (by decide +kernel) ⟨(Nat.le_of_ble_eq_true rfl), (Nat.le_of_ble_eq_true rfl)⟩) rw_Tape rfl rfl rfl hP hD hS hl.1 rfl (Nat.le_of_ble_eq_true rfl) dX4_feed_6 (fun H locs hP hD hS hz_4 => ?_)
  refine lv_if_ne (tgt := 14) hx hb dX4_feed_9 (by decide) (fun c_5 => ?_) (fun c_5 => ?_)
  · have h := ob_f c_5 h
    refine lv_aload_n hx hb dX4_feed_14 rfl (lv_at hl 0 rfl) ?_
    refine va_get (D := D) (ci := 4) (v := .ref (ad 16)) (C := RX4) (T := TX4) (N := 7) hx hb hts ni_X4_feed_X4 hown hK hP 17 rw_Main rfl 0 (by decide) (hts _ nf_X4_feed_f12) (fun _ h9 => h9) rfl dX4_feed_15 ?_
    refine lv_iload_n hx hb dX4_feed_18 rfl (lv_at hl 1 rfl) ?_
    obtain ⟨S_8, hc_6, h⟩ := ob_1s h
    refine km_cVv (As := [.int x1]) (rest := []) C (kX3_addNumber hEE hc_6) (cwV 1 hts gX4_feed_X3_addNumber rfl rfl rfl (by decide +kernel) ⟨(Nat.le_of_ble_eq_true rfl), (Nat.le_of_ble_eq_true rfl)⟩) rw_Tape rfl rfl rfl hP hD hS hl.1 rfl (Nat.le_of_ble_eq_true rfl) dX4_feed_19 (fun H locs hP hD hS => ?_)
    refine lv_aload_n hx hb dX4_feed_22 rfl (lv_at hl 0 rfl) ?_
    refine va_get (D := D) (ci := 4) (v := .ref (ad 16)) (C := RX4) (T := TX4) (N := 7) hx hb hts ni_X4_feed_X4 hown hK hP 17 rw_Main rfl 0 (by decide) (hts _ nf_X4_feed_f12) (fun _ h9 => h9) rfl dX4_feed_23 ?_
    refine lv_iload_n hx hb dX4_feed_26 rfl (lv_at hl 2 rfl) ?_
    obtain ⟨S_11, hc_9, h⟩ := ob_1s h
    refine km_cVv (As := [.int x2]) (rest := []) C (kX3_addNumber hEE hc_9) (cwV 1 hts gX4_feed_X3_addNumber rfl rfl rfl (by decide +kernel) ⟨(Nat.le_of_ble_eq_true rfl), (Nat.le_of_ble_eq_true rfl)⟩) rw_Tape rfl rfl rfl hP hD hS hl.1 rfl (Nat.le_of_ble_eq_true rfl) dX4_feed_27 (fun H locs hP hD hS => ?_)
    refine lv_aload_n hx hb dX4_feed_30 rfl (lv_at hl 0 rfl) ?_
    refine va_get (D := D) (ci := 4) (v := .ref (ad 16)) (C := RX4) (T := TX4) (N := 7) hx hb hts ni_X4_feed_X4 hown hK hP 17 rw_Main rfl 0 (by decide) (hts _ nf_X4_feed_f12) (fun _ h9 => h9) rfl dX4_feed_31 ?_
    refine lv_iload_n hx hb dX4_feed_34 rfl (lv_at hl 3 rfl) ?_
    obtain ⟨S_14, hc_12, h⟩ := ob_1s h
    refine km_cVv (As := [.int x3]) (rest := []) C (kX3_addNumber hEE hc_12) (cwV 1 hts gX4_feed_X3_addNumber rfl rfl rfl (by decide +kernel) ⟨(Nat.le_of_ble_eq_true rfl), (Nat.le_of_ble_eq_true rfl)⟩) rw_Tape rfl rfl rfl hP hD hS hl.1 rfl (Nat.le_of_ble_eq_true rfl) dX4_feed_35 (fun H locs hP hD hS => ?_)
    refine lv_aload_n hx hb dX4_feed_38 rfl (lv_at hl 0 rfl) ?_
    refine va_get (D := D) (ci := 4) (v := .ref (ad 16)) (C := RX4) (T := TX4) (N := 7) hx hb hts ni_X4_feed_X4 hown hK hP 17 rw_Main rfl 0 (by decide) (hts _ nf_X4_feed_f12) (fun _ h9 => h9) rfl dX4_feed_39 ?_
    refine lv_iload hx hb dX4_feed_42 (lv_at hl 4 rfl) ?_
    obtain ⟨S_17, hc_15, h⟩ := ob_1s h
    refine km_cVv (As := [.int x4]) (rest := []) C (kX3_addNumber hEE hc_15) (cwV 1 hts gX4_feed_X3_addNumber rfl rfl rfl (by decide +kernel) ⟨(Nat.le_of_ble_eq_true rfl), (Nat.le_of_ble_eq_true rfl)⟩) rw_Tape rfl rfl rfl hP hD hS hl.1 rfl (Nat.le_of_ble_eq_true rfl) dX4_feed_44 (fun H locs hP hD hS => ?_)
    refine lv_aload_n hx hb dX4_feed_47 rfl (lv_at hl 0 rfl) ?_
    refine va_get (D := D) (ci := 4) (v := .ref (ad 16)) (C := RX4) (T := TX4) (N := 7) hx hb hts ni_X4_feed_X4 hown hK hP 17 rw_Main rfl 0 (by decide) (hts _ nf_X4_feed_f12) (fun _ h9 => h9) rfl dX4_feed_48 ?_
    refine lv_iload hx hb dX4_feed_51 (lv_at hl 5 rfl) ?_
    obtain ⟨S_20, hc_18, h⟩ := ob_1s h
    refine km_cVv (As := [.int x5]) (rest := []) C (kX3_addNumber hEE hc_18) (cwV 1 hts gX4_feed_X3_addNumber rfl rfl rfl (by decide +kernel) ⟨(Nat.le_of_ble_eq_true rfl), (Nat.le_of_ble_eq_true rfl)⟩) rw_Tape rfl rfl rfl hP hD hS hl.1 rfl (Nat.le_of_ble_eq_true rfl) dX4_feed_53 (fun H locs hP hD hS => ?_)
    refine lv_aload_n hx hb dX4_feed_56 rfl (lv_at hl 0 rfl) ?_
    refine va_get (D := D) (ci := 4) (v := .ref (ad 16)) (C := RX4) (T := TX4) (N := 7) hx hb hts ni_X4_feed_X4 hown hK hP 17 rw_Main rfl 0 (by decide) (hts _ nf_X4_feed_f12) (fun _ h9 => h9) rfl dX4_feed_57 ?_
    refine va_get (D := D) (ci := 3) (v := .int (st_i S_20 45)) (C := RX3) (T := TX3) (N := 11) hx hb hts ni_X4_feed_X3 hown hK hP 16 rw_Tape rfl 0 (by decide) (hts _ nf_X4_feed_f55) (fun _ h9 => h9) rfl dX4_feed_60 ?_
    obtain ⟨rfl, rfl⟩ := ob_w h
    exact km_iret C hP hD hS dX4_feed_63
  · have h := ob_t c_5 h
    refine lv_iconst (v := -1) hx hb dX4_feed_12 (by decide) ?_
    obtain ⟨rfl, rfl⟩ := ob_w h
    exact km_iret C hP hD hS dX4_feed_13
