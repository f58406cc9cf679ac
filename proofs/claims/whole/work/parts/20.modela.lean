def fX5_thrown (S : RSt) : Option (Int32 × RSt) := (some (st_i S 0, S))
abbrev rmX5_thrown : Room := { frames := 0, cells := 0, slots := 0, locals := 0 }
theorem nf_X5_thrown_f1 : Cond.fieldLink RX5 1 "RepeatIndexModel" "thrown" "I" ∈ wsX5_thrown := by decide +kernel
theorem ni_X5_thrown_X5 : ∀ w ∈ u_ws RX5 TX5 31, w ∈ wsX5_thrown := by decide +kernel
set_option maxHeartbeats 4000000 in
set_option maxRecDepth 100000 in
theorem kX5_thrown {l : Launch} {D : va_G} {cy : Nat → ClassId} {ad : Nat → Nat} {E : ke_T} (hEE : km_E E) {S : RSt} {r : Int32} {S' : RSt} (h : fX5_thrown S = some (r, S')) : km_i l D (mw_t cy) (mw_w cy ad) E yX5_thrown wsX5_thrown rmX5_thrown [.ref (ad 0)] S r S' := by
  refine km_i_in (cc := cX5_thrown) (nL := 1) hEE (by decide) rfl (Nat.le_of_ble_eq_true rfl) ?_
  intro p e s m below meth c A H ls C hP hD hS hl
  have C : km_C p s m _ meth c cX5_thrown 1 RX5 wsX5_thrown (some .int) D (mw_t cy) E A := C
  obtain ⟨⟨hx, hb, hml, hown, hts⟩, hr, hlk, hK, hA, hE, hEE⟩ := id C
  have hl : lv_has ls 1 [(0, .ref (ad 0))] := hl
  unfold fX5_thrown at h
  refine lv_aload_n hx hb dX5_thrown_0 rfl (lv_at hl 0 rfl) ?_
  refine va_get (D := D) (ci := 5) (v := .int (st_i S 0)) (C := RX5) (T := TX5) (N := 31) hx hb hts ni_X5_thrown_X5 hown hK hP 0 mw_M rfl 0 (by decide) (hts _ nf_X5_thrown_f1) (fun _ h9 => h9) rfl dX5_thrown_1 ?_
  obtain ⟨rfl, rfl⟩ := ob_w h
  exact km_iret C hP hD hS dX5_thrown_4
def fX5_refuse (S : RSt) : Option (Int32 × RSt) := (some ((0 : Int32), (st_si S 0 (1 : Int32))))
abbrev rmX5_refuse : Room := { frames := 0, cells := 0, slots := 0, locals := 0 }
theorem nf_X5_refuse_f1 : Cond.fieldLink RX5 1 "RepeatIndexModel" "thrown" "I" ∈ wsX5_refuse := by decide +kernel
theorem ni_X5_refuse_X5 : ∀ w ∈ u_ws RX5 TX5 31, w ∈ wsX5_refuse := by decide +kernel
set_option maxHeartbeats 4000000 in
set_option maxRecDepth 100000 in
theorem kX5_refuse {l : Launch} {D : va_G} {cy : Nat → ClassId} {ad : Nat → Nat} {E : ke_T} (hEE : km_E E) {S : RSt} {r : Int32} {S' : RSt} (h : fX5_refuse S = some (r, S')) : km_i l D (mw_t cy) (mw_w cy ad) E yX5_refuse wsX5_refuse rmX5_refuse [.ref (ad 0)] S r S' := by
  refine km_i_in (cc := cX5_refuse) (nL := 1) hEE (by decide) rfl (Nat.le_of_ble_eq_true rfl) ?_
  intro p e s m below meth c A H ls C hP hD hS hl
  have C : km_C p s m _ meth c cX5_refuse 1 RX5 wsX5_refuse (some .int) D (mw_t cy) E A := C
  obtain ⟨⟨hx, hb, hml, hown, hts⟩, hr, hlk, hK, hA, hE, hEE⟩ := id C
  have hl : lv_has ls 1 [(0, .ref (ad 0))] := hl
  unfold fX5_refuse at h
  refine lv_aload_n hx hb dX5_refuse_0 rfl (lv_at hl 0 rfl) ?_
  refine lv_iconst (v := 1) hx hb dX5_refuse_1 (by decide) ?_
  refine va_put (D := D) (ci := 5) (v := .int (1 : Int32)) (ty := .int) (C := RX5) (T := TX5) (N := 31) hx hb hts ni_X5_refuse_X5 tyX5 tyX5_ok nmX5 hown hK hP hD hS 0 mw_M rfl 0 (by decide) (hts _ nf_X5_refuse_f1) (fun _ h9 => h9) rfl (by decide +kernel) rfl rfl (Nat.le_of_ble_eq_true rfl) dX5_refuse_2 (fun H locs hP hD hS => ?_)
  have hP := st_ps mw_s_thrown hP
  have hD := st_ds mw_s_thrown hD
  refine lv_iconst (v := 0) hx hb dX5_refuse_5 (by decide) ?_
  obtain ⟨rfl, rfl⟩ := ob_w h
  exact km_iret C hP hD hS dX5_refuse_6
def fX5_isIn (x0 : Int32) (x1 : Int32) (x2 : Int32) (S : RSt) : Option (Int32 × RSt) := (if x0 < x1 then (some ((0 : Int32), S)) else (if x2 < x0 then (some ((0 : Int32), S)) else (some ((1 : Int32), S))))
abbrev rmX5_isIn : Room := { frames := 0, cells := 0, slots := 0, locals := 0 }
set_option maxHeartbeats 4000000 in
set_option maxRecDepth 100000 in
theorem kX5_isIn {l : Launch} {D : va_G} {cy : Nat → ClassId} {ad : Nat → Nat} {E : ke_T} (hEE : km_E E) {x0 : Int32} {x1 : Int32} {x2 : Int32} {S : RSt} {r : Int32} {S' : RSt} (h : fX5_isIn x0 x1 x2 S = some (r, S')) : km_z l D (mw_t cy) (mw_w cy ad) E yX5_isIn wsX5_isIn rmX5_isIn [.int x0, .int x1, .int x2] S r S' := by
  refine km_z_in (cc := cX5_isIn) (nL := 3) hEE (by decide) rfl (Nat.le_of_ble_eq_true rfl) ?_
  intro p e s m below meth c A H ls C hP hD hS hl
  have C : km_C p s m _ meth c cX5_isIn 3 RX5 wsX5_isIn (some .boolean) D (mw_t cy) E A := C
  obtain ⟨⟨hx, hb, hml, hown, hts⟩, hr, hlk, hK, hA, hE, hEE⟩ := id C
  have hl : lv_has ls 3 [(0, .int x0), (1, .int x1), (2, .int x2)] := hl
  unfold fX5_isIn at h
  refine lv_iload_n hx hb dX5_isIn_0 rfl (lv_at hl 0 rfl) ?_
  refine lv_iload_n hx hb dX5_isIn_1 rfl (lv_at hl 1 rfl) ?_
  refine lv_icmp_lt (tgt := 14) hx hb dX5_isIn_2 (by decide) (fun c_1 => ?_) (fun c_1 => ?_)
  · have h := ob_t c_1 h
    refine lv_iconst (v := 0) hx hb dX5_isIn_14 (by decide) ?_
    obtain ⟨rfl, rfl⟩ := ob_w h
    exact km_zret C (by decide) hP hD hS dX5_isIn_15
  · have h := ob_f c_1 h
    refine lv_iload_n hx hb dX5_isIn_5 rfl (lv_at hl 0 rfl) ?_
    refine lv_iload_n hx hb dX5_isIn_6 rfl (lv_at hl 2 rfl) ?_
    refine lv_icmp_gt (tgt := 14) hx hb dX5_isIn_7 (by decide) (fun c_2 => ?_) (fun c_2 => ?_)
    · have h := ob_t c_2 h
      refine lv_iconst (v := 0) hx hb dX5_isIn_14 (by decide) ?_
      obtain ⟨rfl, rfl⟩ := ob_w h
      exact km_zret C (by decide) hP hD hS dX5_isIn_15
    · have h := ob_f c_2 h
      refine lv_iconst (v := 1) hx hb dX5_isIn_10 (by decide) ?_
      refine lv_goto (tgt := 15) hx hb dX5_isIn_11 (by decide) ?_
      obtain ⟨rfl, rfl⟩ := ob_w h
      exact km_zret C (by decide) hP hD hS dX5_isIn_15
def fX5_lays_L3 : Nat → Int32 → Int32 → RSt → Option (RSt)
  | 0, _, _, _ => none
  | n + 1, x1, x2, S => (if x2 < 0 then (some S) else (ob_in (st_i S 1) 540 (fX5_lays_L3 n x1 (x2 + (-8 : Int32)) (st_si (st_sa S 0 (st_i S 1).toNatClampNeg (((x1.toUInt32 >>> (x2.toUInt32 &&& Int32.toUInt32 31)).toInt32) &&& (255 : Int32))) 1 ((st_i (st_sa S 0 (st_i S 1).toNatClampNeg (((x1.toUInt32 >>> (x2.toUInt32 &&& Int32.toUInt32 31)).toInt32) &&& (255 : Int32))) 1) + (1 : Int32))))))
def fX5_lays (x1 : Int32) (S : RSt) : Option (RSt) := (ob_1 (fX5_lays_L3 1000 x1 (24 : Int32) S) fun S_4 => (some S_4))
abbrev rmX5_lays : Room := { frames := 0, cells := 0, slots := 0, locals := 0 }
theorem nf_X5_lays_f7 : Cond.fieldLink RX5 7 "RepeatIndexModel" "tape" "[I" ∈ wsX5_lays := by decide +kernel
theorem ni_X5_lays_X5 : ∀ w ∈ u_ws RX5 TX5 31, w ∈ wsX5_lays := by decide +kernel
theorem nf_X5_lays_f11 : Cond.fieldLink RX5 11 "RepeatIndexModel" "taped" "I" ∈ wsX5_lays := by decide +kernel
set_option maxHeartbeats 4000000 in
set_option maxRecDepth 100000 in
theorem kX5_lays_L3 {l : Launch} {D : va_G} {cy : Nat → ClassId} {ad : Nat → Nat} {E : ke_T} {p : Program} {e : Env} {s : State} {m : MethodId} {args : Array Value} {below : List Frame} {meth : Method} {c : Code} {A : Nat → Prop} {Q : State → Prop} (C : km_C p s m args meth c cX5_lays 3 RX5 wsX5_lays none D (mw_t cy) E A) : ∀ (n : Nat) (x1 : Int32) (x2 : Int32) (S : RSt) (S' : RSt) (h : fX5_lays_L3 n x1 x2 S = some S') {H : Heap} {locs : List Loc} {ls : Array Slot} (hP : va_P D vwCl ((mw_w cy ad) S) H) (hD : va_D A ((mw_w cy ad) S)) (hS : va_S A s.heap H locs) (hl : lv_has ls 3 [(0, .ref (ad 0)), (1, .int x1), (2, .int x2)]) (kx0 : ∀ (H : Heap) (locs : List Loc) (ls : Array Slot), va_P D vwCl ((mw_w cy ad) S') H → va_D A ((mw_w cy ad) S') → va_S A s.heap H locs → lv_has ls 3 [] → W p l e rmX5_lays s m args below meth c H locs 0 0 Q (F0 m 39 ls [])), W p l e rmX5_lays s m args below meth c H locs 0 0 Q (F0 m 3 ls []) := by
  obtain ⟨⟨hx, hb, hml, hown, hts⟩, hr, hlk, hK, hA, hE, hEE⟩ := id C
  intro n
  induction n with
  | zero =>
    intro x1 x2 S S' h
    rw [fX5_lays_L3] at h
    cases h
  | succ n ih =>
    intro x1 x2 S S' h H locs ls hP hD hS hl kx0
    rw [fX5_lays_L3] at h
    refine lv_iload_n hx hb dX5_lays_3 rfl (lv_at hl 2 rfl) ?_
    refine lv_if_lt (tgt := 39) hx hb dX5_lays_4 (by decide) (fun c_1 => ?_) (fun c_1 => ?_)
    · have h := ob_t c_1 h
      cases h
      exact kx0 _ _ _ hP hD hS (lv_sub hl [] rfl)
    · have h := ob_f c_1 h
      refine lv_aload_n hx hb dX5_lays_7 rfl (lv_at hl 0 rfl) ?_
      refine va_get (D := D) (ci := 5) (v := .ref (ad 1)) (C := RX5) (T := TX5) (N := 31) hx hb hts ni_X5_lays_X5 hown hK hP 0 mw_M rfl 1 (by decide) (hts _ nf_X5_lays_f7) (fun _ h9 => h9) rfl dX5_lays_8 ?_
      refine lv_aload_n hx hb dX5_lays_11 rfl (lv_at hl 0 rfl) ?_
      refine va_get (D := D) (ci := 5) (v := .int (st_i S 1)) (C := RX5) (T := TX5) (N := 31) hx hb hts ni_X5_lays_X5 hown hK hP 0 mw_M rfl 2 (by decide) (hts _ nf_X5_lays_f11) (fun _ h9 => h9) rfl dX5_lays_12 ?_
      refine lv_iload_n hx hb dX5_lays_15 rfl (lv_at hl 1 rfl) ?_
      refine lv_iload_n hx hb dX5_lays_16 rfl (lv_at hl 2 rfl) ?_
      refine lv_iushr hx hb dX5_lays_17 rfl ?_
      refine lv_sipush (v := 255) hx hb dX5_lays_18 (by decide) ?_
      refine lv_iand hx hb dX5_lays_21 ?_
      obtain ⟨hv_2, h⟩ := ob_in_s h
      refine va_iast hx hb hK hP hD hS 1 0 mw_tape rfl hv_2 dX5_lays_22 (fun H locs hP hD hS => ?_)
      have hP := st_ps mw_s_tape hP
      have hD := st_ds mw_s_tape hD
      refine lv_aload_n hx hb dX5_lays_23 rfl (lv_at hl 0 rfl) ?_
      refine lv_dup hx hb dX5_lays_24 rfl ?_
      refine va_get (D := D) (ci := 5) (v := .int (st_i (st_sa S 0 (st_i S 1).toNatClampNeg (((x1.toUInt32 >>> (x2.toUInt32 &&& Int32.toUInt32 31)).toInt32) &&& (255 : Int32))) 1)) (C := RX5) (T := TX5) (N := 31) hx hb hts ni_X5_lays_X5 hown hK hP 0 mw_M rfl 2 (by decide) (hts _ nf_X5_lays_f11) (fun _ h9 => h9) rfl dX5_lays_25 ?_
      refine lv_iconst (v := 1) hx hb dX5_lays_28 (by decide) ?_
      refine lv_iadd hx hb dX5_lays_29 ?_
      refine va_put (D := D) (ci := 5) (v := .int ((st_i (st_sa S 0 (st_i S 1).toNatClampNeg (((x1.toUInt32 >>> (x2.toUInt32 &&& Int32.toUInt32 31)).toInt32) &&& (255 : Int32))) 1) + (1 : Int32))) (ty := .int) (C := RX5) (T := TX5) (N := 31) hx hb hts ni_X5_lays_X5 tyX5 tyX5_ok nmX5 hown hK hP hD hS 0 mw_M rfl 2 (by decide) (hts _ nf_X5_lays_f11) (fun _ h9 => h9) rfl (by decide +kernel) rfl rfl (Nat.le_of_ble_eq_true rfl) dX5_lays_30 (fun H locs hP hD hS => ?_)
      have hP := st_ps mw_s_taped hP
      have hD := st_ds mw_s_taped hD
      refine lv_iinc (v := x2 + (-8 : Int32)) (lv' := [(2, .int (x2 + (-8 : Int32))), (0, .ref (ad 0)), (1, .int x1)]) hx hb dX5_lays_33 hl (k := 2) rfl (congrArg (fun z => x2 + z) (by decide)) (by decide) rfl (fun ls hl => ?_)
      refine lv_goto (tgt := 3) hx hb dX5_lays_36 (by decide) ?_
      exact ih _ _ _ _ h hP hD hS (lv_sub hl [1, 2, 0] rfl) kx0
set_option maxHeartbeats 4000000 in
set_option maxRecDepth 100000 in
theorem kX5_lays {l : Launch} {D : va_G} {cy : Nat → ClassId} {ad : Nat → Nat} {E : ke_T} (hEE : km_E E) {x1 : Int32} {S : RSt} {S' : RSt} (h : fX5_lays x1 S = some S') : km_v l D (mw_t cy) (mw_w cy ad) E yX5_lays wsX5_lays rmX5_lays [.ref (ad 0), .int x1] S S' := by
  refine km_v_in (cc := cX5_lays) (nL := 3) hEE (by decide) rfl (Nat.le_of_ble_eq_true rfl) ?_
  intro p e s m below meth c A H ls C hP hD hS hl
  have C : km_C p s m _ meth c cX5_lays 3 RX5 wsX5_lays none D (mw_t cy) E A := C
  obtain ⟨⟨hx, hb, hml, hown, hts⟩, hr, hlk, hK, hA, hE, hEE⟩ := id C
  have hl : lv_has ls 3 [(0, .ref (ad 0)), (1, .int x1)] := hl
  unfold fX5_lays at h
  refine lv_bipush (v := 24) hx hb dX5_lays_0 (by decide) ?_
  refine lv_istore_n (lv' := [(2, .int (24 : Int32)), (0, .ref (ad 0)), (1, .int x1)]) hx hb dX5_lays_2 rfl hl (by decide) rfl (fun ls hl => ?_)
  obtain ⟨S_4, hq_3, h⟩ := ob_1s h
  refine kX5_lays_L3  C _ _ _ _ _ hq_3 hP hD hS (lv_sub hl [1, 2, 0] rfl) (fun H locs ls hP hD hS hl => ?_)
  obtain rfl := ob_v h
  exact km_vret C hP hD hS dX5_lays_39
def fX5_feed (x1 : Int32) (x2 : Int32) (x3 : Int32) (x4 : Int32) (x5 : Int32) (S : RSt) : Option (Int32 × RSt) := (if ((st_i (st_si S 0 (0 : Int32)) 1) + (20 : Int32)) ≤ (540 : Int32) then (ob_1 (fX5_lays x1 (st_si S 0 (0 : Int32))) fun S_4 => (ob_1 (fX5_lays x2 S_4) fun S_7 => (ob_1 (fX5_lays x3 S_7) fun S_10 => (ob_1 (fX5_lays x4 S_10) fun S_13 => (ob_1 (fX5_lays x5 S_13) fun S_16 => (some (st_i S_16 1, S_16))))))) else (some ((-1 : Int32), (st_si S 0 (0 : Int32)))))
abbrev rmX5_feed : Room := { frames := 1, cells := 0, slots := 0, locals := 22 }
theorem nf_X5_feed_f1 : Cond.fieldLink RX5 1 "RepeatIndexModel" "thrown" "I" ∈ wsX5_feed := by decide +kernel
theorem ni_X5_feed_X5 : ∀ w ∈ u_ws RX5 TX5 31, w ∈ wsX5_feed := by decide +kernel
theorem nf_X5_feed_f11 : Cond.fieldLink RX5 11 "RepeatIndexModel" "taped" "I" ∈ wsX5_feed := by decide +kernel
set_option maxHeartbeats 4000000 in
set_option maxRecDepth 100000 in
theorem kX5_feed {l : Launch} {D : va_G} {cy : Nat → ClassId} {ad : Nat → Nat} {E : ke_T} (hEE : km_E E) {x1 : Int32} {x2 : Int32} {x3 : Int32} {x4 : Int32} {x5 : Int32} {S : RSt} {r : Int32} {S' : RSt} (h : fX5_feed x1 x2 x3 x4 x5 S = some (r, S')) : km_i l D (mw_t cy) (mw_w cy ad) E yX5_feed wsX5_feed rmX5_feed [.ref (ad 0), .int x1, .int x2, .int x3, .int x4, .int x5] S r S' := by
  refine km_i_in (cc := cX5_feed) (nL := 6) hEE (by decide) rfl (Nat.le_of_ble_eq_true rfl) ?_
  intro p e s m below meth c A H ls C hP hD hS hl
  have C : km_C p s m _ meth c cX5_feed 6 RX5 wsX5_feed (some .int) D (mw_t cy) E A := C
  obtain ⟨⟨hx, hb, hml, hown, hts⟩, hr, hlk, hK, hA, hE, hEE⟩ := id C
  have hl : lv_has ls 6 [(0, .ref (ad 0)), (1, .int x1), (2, .int x2), (3, .int x3), (4, .int x4), (5, .int x5)] := hl
  unfold fX5_feed at h
  refine lv_aload_n hx hb dX5_feed_0 rfl (lv_at hl 0 rfl) ?_
  refine lv_iconst (v := 0) hx hb dX5_feed_1 (by decide) ?_
  refine va_put (D := D) (ci := 5) (v := .int (0 : Int32)) (ty := .int) (C := RX5) (T := TX5) (N := 31) hx hb hts ni_X5_feed_X5 tyX5 tyX5_ok nmX5 hown hK hP hD hS 0 mw_M rfl 0 (by decide) (hts _ nf_X5_feed_f1) (fun _ h9 => h9) rfl (by decide +kernel) rfl rfl (Nat.le_of_ble_eq_true rfl) dX5_feed_2 (fun H locs hP hD hS => ?_)
  have hP := st_ps mw_s_thrown hP
  have hD := st_ds mw_s_thrown hD
  refine lv_aload_n hx hb dX5_feed_5 rfl (lv_at hl 0 rfl) ?_
  refine va_get (D := D) (ci := 5) (v := .int (st_i (st_si S 0 (0 : Int32)) 1)) (C := RX5) (T := TX5) (N := 31) hx hb hts ni_X5_feed_X5 hown hK hP 0 mw_M rfl 2 (by decide) (hts _ nf_X5_feed_f11) (fun _ h9 => h9) rfl dX5_feed_6 ?_
  refine lv_bipush (v := 20) hx hb dX5_feed_9 (by decide) ?_
  refine lv_iadd hx hb dX5_feed_11 ?_
  refine lv_sipush (v := 540) hx hb dX5_feed_12 (by decide) ?_
  refine lv_icmp_le (tgt := 20) hx hb dX5_feed_15 (by decide) (fun c_1 => ?_) (fun c_1 => ?_)
  · have h := ob_t c_1 h
    refine lv_aload_n hx hb dX5_feed_20 rfl (lv_at hl 0 rfl) ?_
    refine lv_iload_n hx hb dX5_feed_21 rfl (lv_at hl 1 rfl) ?_
    obtain ⟨S_4, hc_2, h⟩ := ob_1s h
    refine km_cVv (As := [.int x1]) (rest := []) C (kX5_lays hEE hc_2) (cwV 1 hts gX5_feed_X5_lays rfl rfl rfl (by decide +kernel) ⟨(Nat.le_of_ble_eq_true rfl), (Nat.le_of_ble_eq_true rfl)⟩) mw_M rfl rfl rfl hP hD hS hl.1 rfl (Nat.le_of_ble_eq_true rfl) dX5_feed_22 (fun H locs hP hD hS => ?_)
    refine lv_aload_n hx hb dX5_feed_25 rfl (lv_at hl 0 rfl) ?_
    refine lv_iload_n hx hb dX5_feed_26 rfl (lv_at hl 2 rfl) ?_
    obtain ⟨S_7, hc_5, h⟩ := ob_1s h
    refine km_cVv (As := [.int x2]) (rest := []) C (kX5_lays hEE hc_5) (cwV 1 hts gX5_feed_X5_lays rfl rfl rfl (by decide +kernel) ⟨(Nat.le_of_ble_eq_true rfl), (Nat.le_of_ble_eq_true rfl)⟩) mw_M rfl rfl rfl hP hD hS hl.1 rfl (Nat.le_of_ble_eq_true rfl) dX5_feed_27 (fun H locs hP hD hS => ?_)
    refine lv_aload_n hx hb dX5_feed_30 rfl (lv_at hl 0 rfl) ?_
    refine lv_iload_n hx hb dX5_feed_31 rfl (lv_at hl 3 rfl) ?_
    obtain ⟨S_10, hc_8, h⟩ := ob_1s h
    refine km_cVv (As := [.int x3]) (rest := []) C (kX5_lays hEE hc_8) (cwV 1 hts gX5_feed_X5_lays rfl rfl rfl (by decide +kernel) ⟨(Nat.le_of_ble_eq_true rfl), (Nat.le_of_ble_eq_true rfl)⟩) mw_M rfl rfl rfl hP hD hS hl.1 rfl (Nat.le_of_ble_eq_true rfl) dX5_feed_32 (fun H locs hP hD hS => ?_)
    refine lv_aload_n hx hb dX5_feed_35 rfl (lv_at hl 0 rfl) ?_
    refine lv_iload hx hb dX5_feed_36 (lv_at hl 4 rfl) ?_
    obtain ⟨S_13, hc_11, h⟩ := ob_1s h
    refine km_cVv (As := [.int x4]) (rest := []) C (kX5_lays hEE hc_11) (cwV 1 hts gX5_feed_X5_lays rfl rfl rfl (by decide +kernel) ⟨(Nat.le_of_ble_eq_true rfl), (Nat.le_of_ble_eq_true rfl)⟩) mw_M rfl rfl rfl hP hD hS hl.1 rfl (Nat.le_of_ble_eq_true rfl) dX5_feed_38 (fun H locs hP hD hS => ?_)
    refine lv_aload_n hx hb dX5_feed_41 rfl (lv_at hl 0 rfl) ?_
    refine lv_iload hx hb dX5_feed_42 (lv_at hl 5 rfl) ?_
    obtain ⟨S_16, hc_14, h⟩ := ob_1s h
    refine km_cVv (As := [.int x5]) (rest := []) C (kX5_lays hEE hc_14) (cwV 1 hts gX5_feed_X5_lays rfl rfl rfl (by decide +kernel) ⟨(Nat.le_of_ble_eq_true rfl), (Nat.le_of_ble_eq_true rfl)⟩) mw_M rfl rfl rfl hP hD hS hl.1 rfl (Nat.le_of_ble_eq_true rfl) dX5_feed_44 (fun H locs hP hD hS => ?_)
    refine lv_aload_n hx hb dX5_feed_47 rfl (lv_at hl 0 rfl) ?_
    refine va_get (D := D) (ci := 5) (v := .int (st_i S_16 1)) (C := RX5) (T := TX5) (N := 31) hx hb hts ni_X5_feed_X5 hown hK hP 0 mw_M rfl 2 (by decide) (hts _ nf_X5_feed_f11) (fun _ h9 => h9) rfl dX5_feed_48 ?_
    obtain ⟨rfl, rfl⟩ := ob_w h
    exact km_iret C hP hD hS dX5_feed_51
  · have h := ob_f c_1 h
    refine lv_iconst (v := -1) hx hb dX5_feed_18 (by decide) ?_
    obtain ⟨rfl, rfl⟩ := ob_w h
    exact km_iret C hP hD hS dX5_feed_19
def fX5_end (x1 : Int32) (S : RSt) : Option (Int32 × RSt) := (if x1 < 0 then (some ((0 : Int32), (st_si S 0 (0 : Int32)))) else (if x1 ≤ (st_i (st_si S 0 (0 : Int32)) 1) then (some ((1 : Int32), (st_si (st_si S 0 (0 : Int32)) 1 x1))) else (some ((0 : Int32), (st_si S 0 (0 : Int32))))))
abbrev rmX5_end : Room := { frames := 0, cells := 0, slots := 0, locals := 0 }
theorem nf_X5_end_f1 : Cond.fieldLink RX5 1 "RepeatIndexModel" "thrown" "I" ∈ wsX5_end := by decide +kernel
theorem ni_X5_end_X5 : ∀ w ∈ u_ws RX5 TX5 31, w ∈ wsX5_end := by decide +kernel
theorem nf_X5_end_f11 : Cond.fieldLink RX5 11 "RepeatIndexModel" "taped" "I" ∈ wsX5_end := by decide +kernel
set_option maxHeartbeats 4000000 in
set_option maxRecDepth 100000 in
theorem kX5_end {l : Launch} {D : va_G} {cy : Nat → ClassId} {ad : Nat → Nat} {E : ke_T} (hEE : km_E E) {x1 : Int32} {S : RSt} {r : Int32} {S' : RSt} (h : fX5_end x1 S = some (r, S')) : km_z l D (mw_t cy) (mw_w cy ad) E yX5_end wsX5_end rmX5_end [.ref (ad 0), .int x1] S r S' := by
  refine km_z_in (cc := cX5_end) (nL := 2) hEE (by decide) rfl (Nat.le_of_ble_eq_true rfl) ?_
  intro p e s m below meth c A H ls C hP hD hS hl
  have C : km_C p s m _ meth c cX5_end 2 RX5 wsX5_end (some .boolean) D (mw_t cy) E A := C
  obtain ⟨⟨hx, hb, hml, hown, hts⟩, hr, hlk, hK, hA, hE, hEE⟩ := id C
  have hl : lv_has ls 2 [(0, .ref (ad 0)), (1, .int x1)] := hl
  unfold fX5_end at h
  refine lv_aload_n hx hb dX5_end_0 rfl (lv_at hl 0 rfl) ?_
  refine lv_iconst (v := 0) hx hb dX5_end_1 (by decide) ?_
  refine va_put (D := D) (ci := 5) (v := .int (0 : Int32)) (ty := .int) (C := RX5) (T := TX5) (N := 31) hx hb hts ni_X5_end_X5 tyX5 tyX5_ok nmX5 hown hK hP hD hS 0 mw_M rfl 0 (by decide) (hts _ nf_X5_end_f1) (fun _ h9 => h9) rfl (by decide +kernel) rfl rfl (Nat.le_of_ble_eq_true rfl) dX5_end_2 (fun H locs hP hD hS => ?_)
  have hP := st_ps mw_s_thrown hP
  have hD := st_ds mw_s_thrown hD
  refine lv_iload_n hx hb dX5_end_5 rfl (lv_at hl 1 rfl) ?_
  refine lv_if_lt (tgt := 17) hx hb dX5_end_6 (by decide) (fun c_1 => ?_) (fun c_1 => ?_)
  · have h := ob_t c_1 h
    refine lv_iconst (v := 0) hx hb dX5_end_17 (by decide) ?_
    obtain ⟨rfl, rfl⟩ := ob_w h
    exact km_zret C (by decide) hP hD hS dX5_end_18
  · have h := ob_f c_1 h
    refine lv_iload_n hx hb dX5_end_9 rfl (lv_at hl 1 rfl) ?_
    refine lv_aload_n hx hb dX5_end_10 rfl (lv_at hl 0 rfl) ?_
    refine va_get (D := D) (ci := 5) (v := .int (st_i (st_si S 0 (0 : Int32)) 1)) (C := RX5) (T := TX5) (N := 31) hx hb hts ni_X5_end_X5 hown hK hP 0 mw_M rfl 2 (by decide) (hts _ nf_X5_end_f11) (fun _ h9 => h9) rfl dX5_end_11 ?_
    refine lv_icmp_le (tgt := 19) hx hb dX5_end_14 (by decide) (fun c_2 => ?_) (fun c_2 => ?_)
    · have h := ob_t c_2 h
      refine lv_aload_n hx hb dX5_end_19 rfl (lv_at hl 0 rfl) ?_
      refine lv_iload_n hx hb dX5_end_20 rfl (lv_at hl 1 rfl) ?_
      refine va_put (D := D) (ci := 5) (v := .int x1) (ty := .int) (C := RX5) (T := TX5) (N := 31) hx hb hts ni_X5_end_X5 tyX5 tyX5_ok nmX5 hown hK hP hD hS 0 mw_M rfl 2 (by decide) (hts _ nf_X5_end_f11) (fun _ h9 => h9) rfl (by decide +kernel) rfl rfl (Nat.le_of_ble_eq_true rfl) dX5_end_21 (fun H locs hP hD hS => ?_)
      have hP := st_ps mw_s_taped hP
      have hD := st_ds mw_s_taped hD
      refine lv_iconst (v := 1) hx hb dX5_end_24 (by decide) ?_
      obtain ⟨rfl, rfl⟩ := ob_w h
      exact km_zret C (by decide) hP hD hS dX5_end_25
    · have h := ob_f c_2 h
      refine lv_iconst (v := 0) hx hb dX5_end_17 (by decide) ?_
      obtain ⟨rfl, rfl⟩ := ob_w h
      exact km_zret C (by decide) hP hD hS dX5_end_18
def fX5_tapeAt (x1 : Int32) (S : RSt) : Option (Int32 × RSt) := (if (st_i S 2) ≤ x1 then (some ((0 : Int32), S)) else (ob_in x1 540 (some (st_a S 0 x1.toNatClampNeg, S))))
abbrev rmX5_tapeAt : Room := { frames := 0, cells := 0, slots := 0, locals := 0 }
theorem nf_X5_tapeAt_f18 : Cond.fieldLink RX5 18 "RepeatIndexModel" "size" "I" ∈ wsX5_tapeAt := by decide +kernel
theorem ni_X5_tapeAt_X5 : ∀ w ∈ u_ws RX5 TX5 31, w ∈ wsX5_tapeAt := by decide +kernel
theorem nf_X5_tapeAt_f7 : Cond.fieldLink RX5 7 "RepeatIndexModel" "tape" "[I" ∈ wsX5_tapeAt := by decide +kernel
set_option maxHeartbeats 4000000 in
set_option maxRecDepth 100000 in
theorem kX5_tapeAt {l : Launch} {D : va_G} {cy : Nat → ClassId} {ad : Nat → Nat} {E : ke_T} (hEE : km_E E) {x1 : Int32} {S : RSt} {r : Int32} {S' : RSt} (h : fX5_tapeAt x1 S = some (r, S')) : km_i l D (mw_t cy) (mw_w cy ad) E yX5_tapeAt wsX5_tapeAt rmX5_tapeAt [.ref (ad 0), .int x1] S r S' := by
  refine km_i_in (cc := cX5_tapeAt) (nL := 2) hEE (by decide) rfl (Nat.le_of_ble_eq_true rfl) ?_
  intro p e s m below meth c A H ls C hP hD hS hl
  have C : km_C p s m _ meth c cX5_tapeAt 2 RX5 wsX5_tapeAt (some .int) D (mw_t cy) E A := C
  obtain ⟨⟨hx, hb, hml, hown, hts⟩, hr, hlk, hK, hA, hE, hEE⟩ := id C
  have hl : lv_has ls 2 [(0, .ref (ad 0)), (1, .int x1)] := hl
  unfold fX5_tapeAt at h
  refine lv_iload_n hx hb dX5_tapeAt_0 rfl (lv_at hl 1 rfl) ?_
  refine lv_aload_n hx hb dX5_tapeAt_1 rfl (lv_at hl 0 rfl) ?_
  refine va_get (D := D) (ci := 5) (v := .int (st_i S 2)) (C := RX5) (T := TX5) (N := 31) hx hb hts ni_X5_tapeAt_X5 hown hK hP 0 mw_M rfl 3 (by decide) (hts _ nf_X5_tapeAt_f18) (fun _ h9 => h9) rfl dX5_tapeAt_2 ?_
  refine lv_icmp_ge (tgt := 17) hx hb dX5_tapeAt_5 (by decide) (fun c_1 => ?_) (fun c_1 => ?_)
  · have h := ob_t c_1 h
    refine lv_iconst (v := 0) hx hb dX5_tapeAt_17 (by decide) ?_
    obtain ⟨rfl, rfl⟩ := ob_w h
    exact km_iret C hP hD hS dX5_tapeAt_18
  · have h := ob_f c_1 h
    refine lv_aload_n hx hb dX5_tapeAt_8 rfl (lv_at hl 0 rfl) ?_
    refine va_get (D := D) (ci := 5) (v := .ref (ad 1)) (C := RX5) (T := TX5) (N := 31) hx hb hts ni_X5_tapeAt_X5 hown hK hP 0 mw_M rfl 1 (by decide) (hts _ nf_X5_tapeAt_f7) (fun _ h9 => h9) rfl dX5_tapeAt_9 ?_
    refine lv_iload_n hx hb dX5_tapeAt_12 rfl (lv_at hl 1 rfl) ?_
    obtain ⟨hv_2, h⟩ := ob_in_s h
    refine va_iald hx hb hK hP 1 0 mw_tape rfl hv_2 dX5_tapeAt_13 ?_
    refine lv_goto (tgt := 18) hx hb dX5_tapeAt_14 (by decide) ?_
    obtain ⟨rfl, rfl⟩ := ob_w h
    exact km_iret C hP hD hS dX5_tapeAt_18
def fX5_isDigit (x0 : Int32) (S : RSt) : Option (Int32 × RSt) := (if x0 < (48 : Int32) then (some ((0 : Int32), S)) else (if (57 : Int32) < x0 then (some ((0 : Int32), S)) else (some ((1 : Int32), S))))
abbrev rmX5_isDigit : Room := { frames := 0, cells := 0, slots := 0, locals := 0 }
set_option maxHeartbeats 4000000 in
set_option maxRecDepth 100000 in
theorem kX5_isDigit {l : Launch} {D : va_G} {cy : Nat → ClassId} {ad : Nat → Nat} {E : ke_T} (hEE : km_E E) {x0 : Int32} {S : RSt} {r : Int32} {S' : RSt} (h : fX5_isDigit x0 S = some (r, S')) : km_z l D (mw_t cy) (mw_w cy ad) E yX5_isDigit wsX5_isDigit rmX5_isDigit [.int x0] S r S' := by
  refine km_z_in (cc := cX5_isDigit) (nL := 1) hEE (by decide) rfl (Nat.le_of_ble_eq_true rfl) ?_
  intro p e s m below meth c A H ls C hP hD hS hl
  have C : km_C p s m _ meth c cX5_isDigit 1 RX5 wsX5_isDigit (some .boolean) D (mw_t cy) E A := C
  obtain ⟨⟨hx, hb, hml, hown, hts⟩, hr, hlk, hK, hA, hE, hEE⟩ := id C
  have hl : lv_has ls 1 [(0, .int x0)] := hl
  unfold fX5_isDigit at h
  refine lv_iload_n hx hb dX5_isDigit_0 rfl (lv_at hl 0 rfl) ?_
  refine lv_bipush (v := 48) hx hb dX5_isDigit_1 (by decide) ?_
  refine lv_icmp_lt (tgt := 16) hx hb dX5_isDigit_3 (by decide) (fun c_1 => ?_) (fun c_1 => ?_)
  · have h := ob_t c_1 h
    refine lv_iconst (v := 0) hx hb dX5_isDigit_16 (by decide) ?_
    obtain ⟨rfl, rfl⟩ := ob_w h
    exact km_zret C (by decide) hP hD hS dX5_isDigit_17
  · have h := ob_f c_1 h
    refine lv_iload_n hx hb dX5_isDigit_6 rfl (lv_at hl 0 rfl) ?_
    refine lv_bipush (v := 57) hx hb dX5_isDigit_7 (by decide) ?_
    refine lv_icmp_gt (tgt := 16) hx hb dX5_isDigit_9 (by decide) (fun c_2 => ?_) (fun c_2 => ?_)
    · have h := ob_t c_2 h
      refine lv_iconst (v := 0) hx hb dX5_isDigit_16 (by decide) ?_
      obtain ⟨rfl, rfl⟩ := ob_w h
      exact km_zret C (by decide) hP hD hS dX5_isDigit_17
    · have h := ob_f c_2 h
      refine lv_iconst (v := 1) hx hb dX5_isDigit_12 (by decide) ?_
      refine lv_goto (tgt := 17) hx hb dX5_isDigit_13 (by decide) ?_
      obtain ⟨rfl, rfl⟩ := ob_w h
      exact km_zret C (by decide) hP hD hS dX5_isDigit_17
def fX5_isLetter (x0 : Int32) (S : RSt) : Option (Int32 × RSt) := (if x0 < (97 : Int32) then (some ((0 : Int32), S)) else (if (122 : Int32) < x0 then (some ((0 : Int32), S)) else (some ((1 : Int32), S))))
abbrev rmX5_isLetter : Room := { frames := 0, cells := 0, slots := 0, locals := 0 }
set_option maxHeartbeats 4000000 in
set_option maxRecDepth 100000 in
theorem kX5_isLetter {l : Launch} {D : va_G} {cy : Nat → ClassId} {ad : Nat → Nat} {E : ke_T} (hEE : km_E E) {x0 : Int32} {S : RSt} {r : Int32} {S' : RSt} (h : fX5_isLetter x0 S = some (r, S')) : km_z l D (mw_t cy) (mw_w cy ad) E yX5_isLetter wsX5_isLetter rmX5_isLetter [.int x0] S r S' := by
  refine km_z_in (cc := cX5_isLetter) (nL := 1) hEE (by decide) rfl (Nat.le_of_ble_eq_true rfl) ?_
  intro p e s m below meth c A H ls C hP hD hS hl
  have C : km_C p s m _ meth c cX5_isLetter 1 RX5 wsX5_isLetter (some .boolean) D (mw_t cy) E A := C
  obtain ⟨⟨hx, hb, hml, hown, hts⟩, hr, hlk, hK, hA, hE, hEE⟩ := id C
  have hl : lv_has ls 1 [(0, .int x0)] := hl
  unfold fX5_isLetter at h
  refine lv_iload_n hx hb dX5_isLetter_0 rfl (lv_at hl 0 rfl) ?_
  refine lv_bipush (v := 97) hx hb dX5_isLetter_1 (by decide) ?_
  refine lv_icmp_lt (tgt := 16) hx hb dX5_isLetter_3 (by decide) (fun c_1 => ?_) (fun c_1 => ?_)
  · have h := ob_t c_1 h
    refine lv_iconst (v := 0) hx hb dX5_isLetter_16 (by decide) ?_
    obtain ⟨rfl, rfl⟩ := ob_w h
    exact km_zret C (by decide) hP hD hS dX5_isLetter_17
  · have h := ob_f c_1 h
    refine lv_iload_n hx hb dX5_isLetter_6 rfl (lv_at hl 0 rfl) ?_
    refine lv_bipush (v := 122) hx hb dX5_isLetter_7 (by decide) ?_
    refine lv_icmp_gt (tgt := 16) hx hb dX5_isLetter_9 (by decide) (fun c_2 => ?_) (fun c_2 => ?_)
    · have h := ob_t c_2 h
      refine lv_iconst (v := 0) hx hb dX5_isLetter_16 (by decide) ?_
      obtain ⟨rfl, rfl⟩ := ob_w h
      exact km_zret C (by decide) hP hD hS dX5_isLetter_17
    · have h := ob_f c_2 h
      refine lv_iconst (v := 1) hx hb dX5_isLetter_12 (by decide) ?_
      refine lv_goto (tgt := 17) hx hb dX5_isLetter_13 (by decide) ?_
      obtain ⟨rfl, rfl⟩ := ob_w h
      exact km_zret C (by decide) hP hD hS dX5_isLetter_17
def fX5_go_L0 : Nat → RSt → Option (RSt)
  | 0, _ => none
  | n + 1, S => (if (st_i S 2) ≤ (st_i S 3) then (some S) else (ob_in (st_i S 3) 540 (ob_j (fun (S_4 : RSt) => (fX5_go_L0 n  (st_si S_4 3 ((st_i S_4 3) + (1 : Int32))))) fun tJ_3 => (if (st_a S 0 (st_i S 3).toNatClampNeg) = (32 : Int32) then (tJ_3 S) else (ob_in (st_i S 3) 540 (if (st_a S 0 (st_i S 3).toNatClampNeg) = (10 : Int32) then (tJ_3 S) else (some S)))))))
def fX5_go_L177 : Nat → Int32 → Int32 → RSt → Option (Int32 × RSt)
  | 0, _, _, _ => none
  | n + 1, x2, x3, S => (ob_2 (fX5_tapeAt (st_i S 3) S) fun r_26 S_27 => (ob_2 (fX5_isLetter r_26 S_27) fun r_29 S_30 => (ob_j (fun (S_33 : RSt) => (ob_in (st_i S_33 3) 540 (ob_j (fun (sJ_35_0 : Int32) (S_36 : RSt) => (ob_j (fun (S_38 : RSt) => (ob_j (fun (S_40 : RSt) => (fX5_go_L177 n x2 sJ_35_0 (st_si S_40 3 ((st_i S_40 3) + (1 : Int32))))) fun tJ_39 => (if (3 : Int32) ≤ ((st_i S_38 3) - (st_i S_38 4)) then (tJ_39 S_38) else (tJ_39 (st_si S_38 6 ((((10 : Int32) * (st_i S_38 6)) + (st_a S_33 0 (st_i S_33 3).toNatClampNeg)) - (48 : Int32))))))) fun tJ_37 => (if (7 : Int32) ≤ ((st_i S_36 3) - (st_i S_36 4)) then (tJ_37 S_36) else (tJ_37 (st_sj S_36 0 ((((27 : Int64) * (st_j S_36 0)) + ((st_a S_33 0 (st_i S_33 3).toNatClampNeg).toInt64)) - (96 : Int64))))))) fun tJ_35 => (ob_j (fun (S_47 : RSt) => (tJ_35 (0 : Int32) S_47)) fun tJ_46 => (if x3 = 0 then (tJ_46 S_33) else (ob_2 (fX5_isLetter (st_a S_33 0 (st_i S_33 3).toNatClampNeg) S_33) fun r_51 S_52 => (if r_51 = x2 then (tJ_35 (1 : Int32) S_52) else (tJ_46 S_52)))))))) fun tJ_32 => (if r_29 = 0 then (ob_2 (fX5_tapeAt (st_i S_30 3) S_30) fun r_58 S_59 => (ob_2 (fX5_isDigit r_58 S_59) fun r_61 S_62 => (if r_61 = 0 then (some (x3, S_62)) else (tJ_32 S_62)))) else (tJ_32 S_30)))))
def fX5_go (S : RSt) : Option (RSt) := (ob_1 (fX5_go_L0 1000  S) fun S_10 => (ob_j (fun (S_12 : RSt) => (if (st_i S_12 3) < (st_i S_12 2) then (ob_in (st_i S_12 3) 540 (ob_2 (fX5_isLetter (st_a S_12 0 (st_i S_12 3).toNatClampNeg) S_12) fun r_16 S_17 => (ob_j (fun (S_20 : RSt) => (ob_2 (fX5_isLetter (st_a S_12 0 (st_i S_12 3).toNatClampNeg) S_20) fun r_22 S_23 => (ob_2 (fX5_go_L177 1000 r_22 (1 : Int32) (st_si (st_sj S_23 0 (0 : Int64)) 6 (0 : Int32))) fun o_67 S_66 => (if o_67 = 0 then (some (st_si S_66 5 (1 : Int32))) else (ob_j (fun (S_70 : RSt) => (if r_22 = 0 then (some (st_si S_70 5 (3 : Int32))) else (some (st_si S_70 5 (2 : Int32))))) fun tJ_69 => (if r_22 = 0 then (if ((st_i S_66 3) - (st_i S_66 4)) ≤ (3 : Int32) then (tJ_69 S_66) else (some (st_si S_66 5 (1 : Int32)))) else (tJ_69 S_66))))))) fun tJ_19 => (if r_16 = 0 then (ob_2 (fX5_isDigit (st_a S_12 0 (st_i S_12 3).toNatClampNeg) S_17) fun r_78 S_79 => (if r_78 = 0 then (ob_j (fun (sJ_82_0 : Int32) (S_83 : RSt) => (some (st_si (st_si S_83 5 sJ_82_0) 3 ((st_i (st_si S_83 5 sJ_82_0) 3) + (1 : Int32))))) fun tJ_82 => (if (st_a S_12 0 (st_i S_12 3).toNatClampNeg) = (59 : Int32) then (tJ_82 (4 : Int32) S_79) else (tJ_82 (1 : Int32) S_79))) else (tJ_19 S_79))) else (tJ_19 S_17))))) else (some (st_si S_12 5 (0 : Int32))))) fun tJ_11 => (if (st_i (st_si S_10 4 (st_i S_10 3)) 2) ≤ (500 : Int32) then (tJ_11 (st_si S_10 4 (st_i S_10 3))) else (if (st_i (st_si S_10 4 (st_i S_10 3)) 4) < (500 : Int32) then (tJ_11 (st_si S_10 4 (st_i S_10 3))) else (some (st_si (st_si (st_si S_10 4 (st_i S_10 3)) 4 (500 : Int32)) 5 (1 : Int32)))))))
abbrev rmX5_go : Room := { frames := 1, cells := 0, slots := 0, locals := 21 }
theorem nf_X5_go_f21 : Cond.fieldLink RX5 21 "RepeatIndexModel" "to" "I" ∈ wsX5_go := by decide +kernel
theorem ni_X5_go_X5 : ∀ w ∈ u_ws RX5 TX5 31, w ∈ wsX5_go := by decide +kernel
theorem nf_X5_go_f18 : Cond.fieldLink RX5 18 "RepeatIndexModel" "size" "I" ∈ wsX5_go := by decide +kernel
theorem nf_X5_go_f7 : Cond.fieldLink RX5 7 "RepeatIndexModel" "tape" "[I" ∈ wsX5_go := by decide +kernel
theorem nf_X5_go_f24 : Cond.fieldLink RX5 24 "RepeatIndexModel" "from" "I" ∈ wsX5_go := by decide +kernel
theorem nf_X5_go_f37 : Cond.fieldLink RX5 37 "RepeatIndexModel" "word" "J" ∈ wsX5_go := by decide +kernel
theorem nf_X5_go_f41 : Cond.fieldLink RX5 41 "RepeatIndexModel" "number" "I" ∈ wsX5_go := by decide +kernel
theorem nf_X5_go_c48 : Cond.constantLong RX5 48 (27) ∈ wsX5_go := by decide +kernel
theorem nf_X5_go_c50 : Cond.constantLong RX5 50 (96) ∈ wsX5_go := by decide +kernel
theorem nf_X5_go_f27 : Cond.fieldLink RX5 27 "RepeatIndexModel" "sort" "I" ∈ wsX5_go := by decide +kernel
set_option maxHeartbeats 4000000 in
set_option maxRecDepth 100000 in
theorem kX5_go_L0 {l : Launch} {D : va_G} {cy : Nat → ClassId} {ad : Nat → Nat} {E : ke_T} {p : Program} {e : Env} {s : State} {m : MethodId} {args : Array Value} {below : List Frame} {meth : Method} {c : Code} {A : Nat → Prop} {Q : State → Prop} (C : km_C p s m args meth c cX5_go 5 RX5 wsX5_go none D (mw_t cy) E A) : ∀ (n : Nat) (S : RSt) (S' : RSt) (h : fX5_go_L0 n  S = some S') {H : Heap} {locs : List Loc} {ls : Array Slot} (hP : va_P D vwCl ((mw_w cy ad) S) H) (hD : va_D A ((mw_w cy ad) S)) (hS : va_S A s.heap H locs) (hl : lv_has ls 5 [(0, .ref (ad 0))]) (kx0 : ∀ (H : Heap) (locs : List Loc) (ls : Array Slot), va_P D vwCl ((mw_w cy ad) S') H → va_D A ((mw_w cy ad) S') → va_S A s.heap H locs → lv_has ls 5 [(0, .ref (ad 0))] → W p l e rmX5_go s m args below meth c H locs 0 0 Q (F0 m 52 ls [])), W p l e rmX5_go s m args below meth c H locs 0 0 Q (F0 m 0 ls []) := by
  obtain ⟨⟨hx, hb, hml, hown, hts⟩, hr, hlk, hK, hA, hE, hEE⟩ := id C
  intro n
  induction n with
  | zero =>
    intro  S S' h
    rw [fX5_go_L0] at h
    cases h
  | succ n ih =>
    intro  S S' h H locs ls hP hD hS hl kx0
    rw [fX5_go_L0] at h
    refine lv_aload_n hx hb dX5_go_0 rfl (lv_at hl 0 rfl) ?_
    refine va_get (D := D) (ci := 5) (v := .int (st_i S 3)) (C := RX5) (T := TX5) (N := 31) hx hb hts ni_X5_go_X5 hown hK hP 0 mw_M rfl 4 (by decide) (hts _ nf_X5_go_f21) (fun _ h9 => h9) rfl dX5_go_1 ?_
    refine lv_aload_n hx hb dX5_go_4 rfl (lv_at hl 0 rfl) ?_
    refine va_get (D := D) (ci := 5) (v := .int (st_i S 2)) (C := RX5) (T := TX5) (N := 31) hx hb hts ni_X5_go_X5 hown hK hP 0 mw_M rfl 3 (by decide) (hts _ nf_X5_go_f18) (fun _ h9 => h9) rfl dX5_go_5 ?_
    refine lv_icmp_ge (tgt := 52) hx hb dX5_go_8 (by decide) (fun c_1 => ?_) (fun c_1 => ?_)
    · have h := ob_t c_1 h
      cases h
      exact kx0 _ _ _ hP hD hS (lv_sub hl [0] rfl)
    · have h := ob_f c_1 h
      refine lv_aload_n hx hb dX5_go_11 rfl (lv_at hl 0 rfl) ?_
      refine va_get (D := D) (ci := 5) (v := .ref (ad 1)) (C := RX5) (T := TX5) (N := 31) hx hb hts ni_X5_go_X5 hown hK hP 0 mw_M rfl 1 (by decide) (hts _ nf_X5_go_f7) (fun _ h9 => h9) rfl dX5_go_12 ?_
      refine lv_aload_n hx hb dX5_go_15 rfl (lv_at hl 0 rfl) ?_
      refine va_get (D := D) (ci := 5) (v := .int (st_i S 3)) (C := RX5) (T := TX5) (N := 31) hx hb hts ni_X5_go_X5 hown hK hP 0 mw_M rfl 4 (by decide) (hts _ nf_X5_go_f21) (fun _ h9 => h9) rfl dX5_go_16 ?_
      obtain ⟨hv_2, h⟩ := ob_in_s h
      refine va_iald hx hb hK hP 1 0 mw_tape rfl hv_2 dX5_go_19 ?_
      refine lv_bipush (v := 32) hx hb dX5_go_20 (by decide) ?_
      obtain ⟨tJ_3, hT_5, h⟩ := ob_js h
      have kJ_3 : ∀ (S_4 : RSt) (_ : tJ_3 S_4 = some S') (H : Heap) (locs : List Loc) (ls : Array Slot), va_P D vwCl ((mw_w cy ad) S_4) H → va_D A ((mw_w cy ad) S_4) → va_S A s.heap H locs → lv_has ls 5 [(0, .ref (ad 0))] → W p l e rmX5_go s m args below meth c H locs 0 0 Q (F0 m 39 ls []) := by
        intro S_4 h H locs ls hP hD hS hl
        rw [← hT_5] at h
        refine lv_aload_n hx hb dX5_go_39 rfl (lv_at hl 0 rfl) ?_
        refine lv_dup hx hb dX5_go_40 rfl ?_
        refine va_get (D := D) (ci := 5) (v := .int (st_i S_4 3)) (C := RX5) (T := TX5) (N := 31) hx hb hts ni_X5_go_X5 hown hK hP 0 mw_M rfl 4 (by decide) (hts _ nf_X5_go_f21) (fun _ h9 => h9) rfl dX5_go_41 ?_
        refine lv_iconst (v := 1) hx hb dX5_go_44 (by decide) ?_
        refine lv_iadd hx hb dX5_go_45 ?_
        refine va_put (D := D) (ci := 5) (v := .int ((st_i S_4 3) + (1 : Int32))) (ty := .int) (C := RX5) (T := TX5) (N := 31) hx hb hts ni_X5_go_X5 tyX5 tyX5_ok nmX5 hown hK hP hD hS 0 mw_M rfl 4 (by decide) (hts _ nf_X5_go_f21) (fun _ h9 => h9) rfl (by decide +kernel) rfl rfl (Nat.le_of_ble_eq_true rfl) dX5_go_46 (fun H locs hP hD hS => ?_)
        have hP := st_ps mw_s_to hP
        have hD := st_ds mw_s_to hD
        refine lv_goto (tgt := 0) hx hb dX5_go_49 (by decide) ?_
        exact ih  _ _ h hP hD hS (lv_sub hl [0] rfl) kx0
      refine lv_icmp_eq (tgt := 39) hx hb dX5_go_22 (by decide) (fun c_6 => ?_) (fun c_6 => ?_)
      · have h := ob_t c_6 h
        exact kJ_3  _ h _ _ _ hP hD hS (lv_sub hl [0] rfl)
      · have h := ob_f c_6 h
        refine lv_aload_n hx hb dX5_go_25 rfl (lv_at hl 0 rfl) ?_
        refine va_get (D := D) (ci := 5) (v := .ref (ad 1)) (C := RX5) (T := TX5) (N := 31) hx hb hts ni_X5_go_X5 hown hK hP 0 mw_M rfl 1 (by decide) (hts _ nf_X5_go_f7) (fun _ h9 => h9) rfl dX5_go_26 ?_
        refine lv_aload_n hx hb dX5_go_29 rfl (lv_at hl 0 rfl) ?_
        refine va_get (D := D) (ci := 5) (v := .int (st_i S 3)) (C := RX5) (T := TX5) (N := 31) hx hb hts ni_X5_go_X5 hown hK hP 0 mw_M rfl 4 (by decide) (hts _ nf_X5_go_f21) (fun _ h9 => h9) rfl dX5_go_30 ?_
        obtain ⟨hv_7, h⟩ := ob_in_s h
        refine va_iald hx hb hK hP 1 0 mw_tape rfl hv_7 dX5_go_33 ?_
        refine lv_bipush (v := 10) hx hb dX5_go_34 (by decide) ?_
        refine lv_icmp_ne (tgt := 52) hx hb dX5_go_36 (by decide) (fun c_8 => ?_) (fun c_8 => ?_)
        · have h := ob_f c_8 h
          cases h
          exact kx0 _ _ _ hP hD hS (lv_sub hl [0] rfl)
        · have h := ob_t c_8 h
          exact kJ_3  _ h _ _ _ hP hD hS (lv_sub hl [0] rfl)
set_option maxHeartbeats 4000000 in
set_option maxRecDepth 100000 in
theorem kX5_go_L177 {l : Launch} {D : va_G} {cy : Nat → ClassId} {ad : Nat → Nat} {E : ke_T} {p : Program} {e : Env} {s : State} {m : MethodId} {args : Array Value} {below : List Frame} {meth : Method} {c : Code} {A : Nat → Prop} {Q : State → Prop} (C : km_C p s m args meth c cX5_go 5 RX5 wsX5_go none D (mw_t cy) E A) : ∀ (n : Nat) (x2 : Int32) (x3 : Int32) (S : RSt) (o3 : Int32) (S' : RSt) (h : fX5_go_L177 n x2 x3 S = some (o3, S')) {H : Heap} {locs : List Loc} {ls : Array Slot} (hP : va_P D vwCl ((mw_w cy ad) S) H) (hD : va_D A ((mw_w cy ad) S)) (hS : va_S A s.heap H locs) (hl : lv_has ls 5 [(0, .ref (ad 0)), (2, .int x2), (3, .int x3)]) (kx0 : ∀ (H : Heap) (locs : List Loc) (ls : Array Slot), va_P D vwCl ((mw_w cy ad) S') H → va_D A ((mw_w cy ad) S') → va_S A s.heap H locs → lv_has ls 5 [(0, .ref (ad 0)), (2, .int x2), (3, .int o3)] → W p l e rmX5_go s m args below meth c H locs 0 0 Q (F0 m 312 ls [])), W p l e rmX5_go s m args below meth c H locs 0 0 Q (F0 m 177 ls []) := by
  obtain ⟨⟨hx, hb, hml, hown, hts⟩, hr, hlk, hK, hA, hE, hEE⟩ := id C
  intro n
  induction n with
  | zero =>
    intro x2 x3 S o3 S' h
    rw [fX5_go_L177] at h
    cases h
  | succ n ih =>
    intro x2 x3 S o3 S' h H locs ls hP hD hS hl kx0
    rw [fX5_go_L177] at h
    refine lv_aload_n hx hb dX5_go_177 rfl (lv_at hl 0 rfl) ?_
    refine lv_aload_n hx hb dX5_go_178 rfl (lv_at hl 0 rfl) ?_
    refine va_get (D := D) (ci := 5) (v := .int (st_i S 3)) (C := RX5) (T := TX5) (N := 31) hx hb hts ni_X5_go_X5 hown hK hP 0 mw_M rfl 4 (by decide) (hts _ nf_X5_go_f21) (fun _ h9 => h9) rfl dX5_go_179 ?_
    obtain ⟨r_26, S_27, hc_25, h⟩ := ob_2s h
    refine km_cVi (As := [.int (st_i S 3)]) (rest := []) C (kX5_tapeAt hEE hc_25) (cwV 1 hts gX5_go_X5_tapeAt rfl rfl rfl (by decide +kernel) ⟨(Nat.le_of_ble_eq_true rfl), (Nat.le_of_ble_eq_true rfl)⟩) mw_M rfl rfl rfl hP hD hS hl.1 rfl (Nat.le_of_ble_eq_true rfl) dX5_go_182 (fun H locs hP hD hS => ?_)
    obtain ⟨r_29, S_30, hc_28, h⟩ := ob_2s h
    refine km_cSz (As := [.int r_26]) (rest := []) C (kX5_isLetter hEE hc_28) (va_cwS 1 hts gX5_go_X5_isLetter rfl rfl rfl (by decide +kernel) ⟨(Nat.le_of_ble_eq_true rfl), (Nat.le_of_ble_eq_true rfl)⟩) rfl hP hD hS hl.1 rfl (Nat.le_of_ble_eq_true rfl) dX5_go_185 (fun H locs hP hD hS hz_31 => ?_)
    obtain ⟨tJ_32, hT_55, h⟩ := ob_js h
    have kJ_32 : ∀ (S_33 : RSt) (_ : tJ_32 S_33 = some (o3, S')) (H : Heap) (locs : List Loc) (ls : Array Slot), va_P D vwCl ((mw_w cy ad) S_33) H → va_D A ((mw_w cy ad) S_33) → va_S A s.heap H locs → lv_has ls 5 [(0, .ref (ad 0)), (2, .int x2), (3, .int x3)] → W p l e rmX5_go s m args below meth c H locs 0 0 Q (F0 m 205 ls []) := by
      intro S_33 h H locs ls hP hD hS hl
      rw [← hT_55] at h
      refine lv_aload_n hx hb dX5_go_205 rfl (lv_at hl 0 rfl) ?_
      refine va_get (D := D) (ci := 5) (v := .ref (ad 1)) (C := RX5) (T := TX5) (N := 31) hx hb hts ni_X5_go_X5 hown hK hP 0 mw_M rfl 1 (by decide) (hts _ nf_X5_go_f7) (fun _ h9 => h9) rfl dX5_go_206 ?_
      refine lv_aload_n hx hb dX5_go_209 rfl (lv_at hl 0 rfl) ?_
      refine va_get (D := D) (ci := 5) (v := .int (st_i S_33 3)) (C := RX5) (T := TX5) (N := 31) hx hb hts ni_X5_go_X5 hown hK hP 0 mw_M rfl 4 (by decide) (hts _ nf_X5_go_f21) (fun _ h9 => h9) rfl dX5_go_210 ?_
      obtain ⟨hv_34, h⟩ := ob_in_s h
      refine va_iald hx hb hK hP 1 0 mw_tape rfl hv_34 dX5_go_213 ?_
      refine lv_istore (lv' := [(4, .int (st_a S_33 0 (st_i S_33 3).toNatClampNeg)), (0, .ref (ad 0)), (2, .int x2), (3, .int x3)]) hx hb dX5_go_214 hl (by decide) rfl (fun ls hl => ?_)
      refine lv_iload_n hx hb dX5_go_216 rfl (lv_at hl 3 rfl) ?_
      obtain ⟨tJ_35, hT_45, h⟩ := ob_js h
      have kJ_35 : ∀ (sJ_35_0 : Int32) (S_36 : RSt) (_ : tJ_35 sJ_35_0 S_36 = some (o3, S')) (H : Heap) (locs : List Loc) (ls : Array Slot), va_P D vwCl ((mw_w cy ad) S_36) H → va_D A ((mw_w cy ad) S_36) → va_S A s.heap H locs → lv_has ls 5 [(0, .ref (ad 0)), (2, .int x2), (4, .int (st_a S_33 0 (st_i S_33 3).toNatClampNeg))] → W p l e rmX5_go s m args below meth c H locs 0 0 Q (F0 m 234 ls [.int sJ_35_0]) := by
        intro sJ_35_0 S_36 h H locs ls hP hD hS hl
        rw [← hT_45] at h
        refine lv_istore_n (lv' := [(3, .int sJ_35_0), (0, .ref (ad 0)), (2, .int x2), (4, .int (st_a S_33 0 (st_i S_33 3).toNatClampNeg))]) hx hb dX5_go_234 rfl hl (by decide) rfl (fun ls hl => ?_)
        refine lv_aload_n hx hb dX5_go_235 rfl (lv_at hl 1 rfl) ?_
        refine va_get (D := D) (ci := 5) (v := .int (st_i S_36 3)) (C := RX5) (T := TX5) (N := 31) hx hb hts ni_X5_go_X5 hown hK hP 0 mw_M rfl 4 (by decide) (hts _ nf_X5_go_f21) (fun _ h9 => h9) rfl dX5_go_236 ?_
        refine lv_aload_n hx hb dX5_go_239 rfl (lv_at hl 1 rfl) ?_
        refine va_get (D := D) (ci := 5) (v := .int (st_i S_36 4)) (C := RX5) (T := TX5) (N := 31) hx hb hts ni_X5_go_X5 hown hK hP 0 mw_M rfl 5 (by decide) (hts _ nf_X5_go_f24) (fun _ h9 => h9) rfl dX5_go_240 ?_
        refine lv_isub hx hb dX5_go_243 ?_
        refine lv_bipush (v := 7) hx hb dX5_go_244 (by decide) ?_
        obtain ⟨tJ_37, hT_43, h⟩ := ob_js h
        have kJ_37 : ∀ (S_38 : RSt) (_ : tJ_37 S_38 = some (o3, S')) (H : Heap) (locs : List Loc) (ls : Array Slot), va_P D vwCl ((mw_w cy ad) S_38) H → va_D A ((mw_w cy ad) S_38) → va_S A s.heap H locs → lv_has ls 5 [(0, .ref (ad 0)), (2, .int x2), (3, .int sJ_35_0), (4, .int (st_a S_33 0 (st_i S_33 3).toNatClampNeg))] → W p l e rmX5_go s m args below meth c H locs 0 0 Q (F0 m 269 ls []) := by
          intro S_38 h H locs ls hP hD hS hl
          rw [← hT_43] at h
          refine lv_aload_n hx hb dX5_go_269 rfl (lv_at hl 0 rfl) ?_
          refine va_get (D := D) (ci := 5) (v := .int (st_i S_38 3)) (C := RX5) (T := TX5) (N := 31) hx hb hts ni_X5_go_X5 hown hK hP 0 mw_M rfl 4 (by decide) (hts _ nf_X5_go_f21) (fun _ h9 => h9) rfl dX5_go_270 ?_
          refine lv_aload_n hx hb dX5_go_273 rfl (lv_at hl 0 rfl) ?_
          refine va_get (D := D) (ci := 5) (v := .int (st_i S_38 4)) (C := RX5) (T := TX5) (N := 31) hx hb hts ni_X5_go_X5 hown hK hP 0 mw_M rfl 5 (by decide) (hts _ nf_X5_go_f24) (fun _ h9 => h9) rfl dX5_go_274 ?_
          refine lv_isub hx hb dX5_go_277 ?_
          refine lv_iconst (v := 3) hx hb dX5_go_278 (by decide) ?_
          obtain ⟨tJ_39, hT_41, h⟩ := ob_js h
          have kJ_39 : ∀ (S_40 : RSt) (_ : tJ_39 S_40 = some (o3, S')) (H : Heap) (locs : List Loc) (ls : Array Slot), va_P D vwCl ((mw_w cy ad) S_40) H → va_D A ((mw_w cy ad) S_40) → va_S A s.heap H locs → lv_has ls 5 [(0, .ref (ad 0)), (2, .int x2), (3, .int sJ_35_0)] → W p l e rmX5_go s m args below meth c H locs 0 0 Q (F0 m 299 ls []) := by
            intro S_40 h H locs ls hP hD hS hl
            rw [← hT_41] at h
            refine lv_aload_n hx hb dX5_go_299 rfl (lv_at hl 0 rfl) ?_
            refine lv_dup hx hb dX5_go_300 rfl ?_
            refine va_get (D := D) (ci := 5) (v := .int (st_i S_40 3)) (C := RX5) (T := TX5) (N := 31) hx hb hts ni_X5_go_X5 hown hK hP 0 mw_M rfl 4 (by decide) (hts _ nf_X5_go_f21) (fun _ h9 => h9) rfl dX5_go_301 ?_
            refine lv_iconst (v := 1) hx hb dX5_go_304 (by decide) ?_
            refine lv_iadd hx hb dX5_go_305 ?_
            refine va_put (D := D) (ci := 5) (v := .int ((st_i S_40 3) + (1 : Int32))) (ty := .int) (C := RX5) (T := TX5) (N := 31) hx hb hts ni_X5_go_X5 tyX5 tyX5_ok nmX5 hown hK hP hD hS 0 mw_M rfl 4 (by decide) (hts _ nf_X5_go_f21) (fun _ h9 => h9) rfl (by decide +kernel) rfl rfl (Nat.le_of_ble_eq_true rfl) dX5_go_306 (fun H locs hP hD hS => ?_)
            have hP := st_ps mw_s_to hP
            have hD := st_ds mw_s_to hD
            refine lv_goto (tgt := 177) hx hb dX5_go_309 (by decide) ?_
            exact ih _ _ _ _ _ h hP hD hS (lv_sub hl [0, 1, 2] rfl) kx0
          refine lv_icmp_ge (tgt := 299) hx hb dX5_go_279 (by decide) (fun c_42 => ?_) (fun c_42 => ?_)
          · have h := ob_t c_42 h
            exact kJ_39  _ h _ _ _ hP hD hS (lv_sub hl [0, 1, 2] rfl)
          · have h := ob_f c_42 h
            refine lv_aload_n hx hb dX5_go_282 rfl (lv_at hl 0 rfl) ?_
            refine lv_bipush (v := 10) hx hb dX5_go_283 (by decide) ?_
            refine lv_aload_n hx hb dX5_go_285 rfl (lv_at hl 0 rfl) ?_
            refine va_get (D := D) (ci := 5) (v := .int (st_i S_38 6)) (C := RX5) (T := TX5) (N := 31) hx hb hts ni_X5_go_X5 hown hK hP 0 mw_M rfl 7 (by decide) (hts _ nf_X5_go_f41) (fun _ h9 => h9) rfl dX5_go_286 ?_
            refine lv_imul hx hb dX5_go_289 ?_
            refine lv_iload hx hb dX5_go_290 (lv_at hl 3 rfl) ?_
            refine lv_iadd hx hb dX5_go_292 ?_
            refine lv_bipush (v := 48) hx hb dX5_go_293 (by decide) ?_
            refine lv_isub hx hb dX5_go_295 ?_
            refine va_put (D := D) (ci := 5) (v := .int ((((10 : Int32) * (st_i S_38 6)) + (st_a S_33 0 (st_i S_33 3).toNatClampNeg)) - (48 : Int32))) (ty := .int) (C := RX5) (T := TX5) (N := 31) hx hb hts ni_X5_go_X5 tyX5 tyX5_ok nmX5 hown hK hP hD hS 0 mw_M rfl 7 (by decide) (hts _ nf_X5_go_f41) (fun _ h9 => h9) rfl (by decide +kernel) rfl rfl (Nat.le_of_ble_eq_true rfl) dX5_go_296 (fun H locs hP hD hS => ?_)
            have hP := st_ps mw_s_number hP
            have hD := st_ds mw_s_number hD
            exact kJ_39  _ h _ _ _ hP hD hS (lv_sub hl [0, 1, 2] rfl)
        refine lv_icmp_ge (tgt := 269) hx hb dX5_go_246 (by decide) (fun c_44 => ?_) (fun c_44 => ?_)
        · have h := ob_t c_44 h
          exact kJ_37  _ h _ _ _ hP hD hS (lv_sub hl [1, 2, 0, 3] rfl)
        · have h := ob_f c_44 h
          refine lv_aload_n hx hb dX5_go_249 rfl (lv_at hl 1 rfl) ?_
          refine lv_ldc2 (v := 27) hx hb hown (hts _ nf_X5_go_c48) dX5_go_250 ?_
          refine lv_aload_n hx hb dX5_go_253 rfl (lv_at hl 1 rfl) ?_
          refine va_get (D := D) (ci := 5) (v := .long (st_j S_36 0)) (C := RX5) (T := TX5) (N := 31) hx hb hts ni_X5_go_X5 hown hK hP 0 mw_M rfl 10 (by decide) (hts _ nf_X5_go_f37) (fun _ h9 => h9) rfl dX5_go_254 ?_
          refine lv_lmul hx hb dX5_go_257 ?_
          refine lv_iload hx hb dX5_go_258 (lv_at hl 3 rfl) ?_
          refine lv_i2l hx hb dX5_go_260 rfl ?_
          refine lv_ladd hx hb dX5_go_261 ?_
          refine lv_ldc2 (v := 96) hx hb hown (hts _ nf_X5_go_c50) dX5_go_262 ?_
          refine lv_lsub hx hb dX5_go_265 ?_
          refine va_put (D := D) (ci := 5) (v := .long ((((27 : Int64) * (st_j S_36 0)) + ((st_a S_33 0 (st_i S_33 3).toNatClampNeg).toInt64)) - (96 : Int64))) (ty := .long) (C := RX5) (T := TX5) (N := 31) hx hb hts ni_X5_go_X5 tyX5 tyX5_ok nmX5 hown hK hP hD hS 0 mw_M rfl 10 (by decide) (hts _ nf_X5_go_f37) (fun _ h9 => h9) rfl (by decide +kernel) rfl rfl (Nat.le_of_ble_eq_true rfl) dX5_go_266 (fun H locs hP hD hS => ?_)
          have hP := st_ps mw_s_word hP
          have hD := st_ds mw_s_word hD
          exact kJ_37  _ h _ _ _ hP hD hS (lv_sub hl [1, 2, 0, 3] rfl)
      obtain ⟨tJ_46, hT_48, h⟩ := ob_js h
      have kJ_46 : ∀ (S_47 : RSt) (_ : tJ_46 S_47 = some (o3, S')) (H : Heap) (locs : List Loc) (ls : Array Slot), va_P D vwCl ((mw_w cy ad) S_47) H → va_D A ((mw_w cy ad) S_47) → va_S A s.heap H locs → lv_has ls 5 [(0, .ref (ad 0)), (2, .int x2), (4, .int (st_a S_33 0 (st_i S_33 3).toNatClampNeg))] → W p l e rmX5_go s m args below meth c H locs 0 0 Q (F0 m 233 ls []) := by
        intro S_47 h H locs ls hP hD hS hl
        rw [← hT_48] at h
        refine lv_iconst (v := 0) hx hb dX5_go_233 (by decide) ?_
        exact kJ_35 _ _ h _ _ _ hP hD hS (lv_sub hl [0, 1, 2] rfl)
      refine lv_if_eq (tgt := 233) hx hb dX5_go_217 (by decide) (fun c_49 => ?_) (fun c_49 => ?_)
      · have h := ob_t c_49 h
        exact kJ_46  _ h _ _ _ hP hD hS (lv_sub hl [1, 2, 0] rfl)
      · have h := ob_f c_49 h
        refine lv_iload hx hb dX5_go_220 (lv_at hl 0 rfl) ?_
        obtain ⟨r_51, S_52, hc_50, h⟩ := ob_2s h
        refine km_cSz (As := [.int (st_a S_33 0 (st_i S_33 3).toNatClampNeg)]) (rest := []) C (kX5_isLetter hEE hc_50) (va_cwS 1 hts gX5_go_X5_isLetter rfl rfl rfl (by decide +kernel) ⟨(Nat.le_of_ble_eq_true rfl), (Nat.le_of_ble_eq_true rfl)⟩) rfl hP hD hS hl.1 rfl (Nat.le_of_ble_eq_true rfl) dX5_go_222 (fun H locs hP hD hS hz_53 => ?_)
        refine lv_iload_n hx hb dX5_go_225 rfl (lv_at hl 2 rfl) ?_
        refine lv_icmp_ne (tgt := 233) hx hb dX5_go_226 (by decide) (fun c_54 => ?_) (fun c_54 => ?_)
        · have h := ob_f c_54 h
          exact kJ_46  _ h _ _ _ hP hD hS (lv_sub hl [1, 2, 0] rfl)
        · have h := ob_t c_54 h
          refine lv_iconst (v := 1) hx hb dX5_go_229 (by decide) ?_
          refine lv_goto (tgt := 234) hx hb dX5_go_230 (by decide) ?_
          exact kJ_35 _ _ h _ _ _ hP hD hS (lv_sub hl [1, 2, 0] rfl)
    refine lv_if_ne (tgt := 205) hx hb dX5_go_188 (by decide) (fun c_56 => ?_) (fun c_56 => ?_)
    · have h := ob_f c_56 h
      exact kJ_32  _ h _ _ _ hP hD hS (lv_sub hl [0, 1, 2] rfl)
    · have h := ob_t c_56 h
      refine lv_aload_n hx hb dX5_go_191 rfl (lv_at hl 0 rfl) ?_
      refine lv_aload_n hx hb dX5_go_192 rfl (lv_at hl 0 rfl) ?_
      refine va_get (D := D) (ci := 5) (v := .int (st_i S_30 3)) (C := RX5) (T := TX5) (N := 31) hx hb hts ni_X5_go_X5 hown hK hP 0 mw_M rfl 4 (by decide) (hts _ nf_X5_go_f21) (fun _ h9 => h9) rfl dX5_go_193 ?_
      obtain ⟨r_58, S_59, hc_57, h⟩ := ob_2s h
      refine km_cVi (As := [.int (st_i S_30 3)]) (rest := []) C (kX5_tapeAt hEE hc_57) (cwV 1 hts gX5_go_X5_tapeAt rfl rfl rfl (by decide +kernel) ⟨(Nat.le_of_ble_eq_true rfl), (Nat.le_of_ble_eq_true rfl)⟩) mw_M rfl rfl rfl hP hD hS hl.1 rfl (Nat.le_of_ble_eq_true rfl) dX5_go_196 (fun H locs hP hD hS => ?_)
      obtain ⟨r_61, S_62, hc_60, h⟩ := ob_2s h
      refine km_cSz (As := [.int r_58]) (rest := []) C (kX5_isDigit hEE hc_60) (va_cwS 1 hts gX5_go_X5_isDigit rfl rfl rfl (by decide +kernel) ⟨(Nat.le_of_ble_eq_true rfl), (Nat.le_of_ble_eq_true rfl)⟩) rfl hP hD hS hl.1 rfl (Nat.le_of_ble_eq_true rfl) dX5_go_199 (fun H locs hP hD hS hz_63 => ?_)
      refine lv_if_eq (tgt := 312) hx hb dX5_go_202 (by decide) (fun c_64 => ?_) (fun c_64 => ?_)
      · have h := ob_t c_64 h
        cases h
        exact kx0 _ _ _ hP hD hS (lv_sub hl [0, 1, 2] rfl)
      · have h := ob_f c_64 h
        exact kJ_32  _ h _ _ _ hP hD hS (lv_sub hl [0, 1, 2] rfl)
set_option maxHeartbeats 4000000 in
set_option maxRecDepth 100000 in
theorem kX5_go {l : Launch} {D : va_G} {cy : Nat → ClassId} {ad : Nat → Nat} {E : ke_T} (hEE : km_E E) {S : RSt} {S' : RSt} (h : fX5_go S = some S') : km_v l D (mw_t cy) (mw_w cy ad) E yX5_go wsX5_go rmX5_go [.ref (ad 0)] S S' := by
  refine km_v_in (cc := cX5_go) (nL := 5) hEE (by decide) rfl (Nat.le_of_ble_eq_true rfl) ?_
  intro p e s m below meth c A H ls C hP hD hS hl
  have C : km_C p s m _ meth c cX5_go 5 RX5 wsX5_go none D (mw_t cy) E A := C
  obtain ⟨⟨hx, hb, hml, hown, hts⟩, hr, hlk, hK, hA, hE, hEE⟩ := id C
  have hl : lv_has ls 5 [(0, .ref (ad 0))] := hl
  unfold fX5_go at h
  obtain ⟨S_10, hq_9, h⟩ := ob_1s h
  refine kX5_go_L0  C _  _ _ hq_9 hP hD hS (lv_sub hl [0] rfl) (fun H locs ls hP hD hS hl => ?_)
  refine lv_aload_n hx hb dX5_go_52 rfl (lv_at hl 0 rfl) ?_
  refine lv_aload_n hx hb dX5_go_53 rfl (lv_at hl 0 rfl) ?_
  refine va_get (D := D) (ci := 5) (v := .int (st_i S_10 3)) (C := RX5) (T := TX5) (N := 31) hx hb hts ni_X5_go_X5 hown hK hP 0 mw_M rfl 4 (by decide) (hts _ nf_X5_go_f21) (fun _ h9 => h9) rfl dX5_go_54 ?_
  refine va_put (D := D) (ci := 5) (v := .int (st_i S_10 3)) (ty := .int) (C := RX5) (T := TX5) (N := 31) hx hb hts ni_X5_go_X5 tyX5 tyX5_ok nmX5 hown hK hP hD hS 0 mw_M rfl 5 (by decide) (hts _ nf_X5_go_f24) (fun _ h9 => h9) rfl (by decide +kernel) rfl rfl (Nat.le_of_ble_eq_true rfl) dX5_go_57 (fun H locs hP hD hS => ?_)
  have hP := st_ps mw_s_from hP
  have hD := st_ds mw_s_from hD
  refine lv_aload_n hx hb dX5_go_60 rfl (lv_at hl 0 rfl) ?_
  refine va_get (D := D) (ci := 5) (v := .int (st_i (st_si S_10 4 (st_i S_10 3)) 2)) (C := RX5) (T := TX5) (N := 31) hx hb hts ni_X5_go_X5 hown hK hP 0 mw_M rfl 3 (by decide) (hts _ nf_X5_go_f18) (fun _ h9 => h9) rfl dX5_go_61 ?_
  refine lv_sipush (v := 500) hx hb dX5_go_64 (by decide) ?_
  obtain ⟨tJ_11, hT_86, h⟩ := ob_js h
  have kJ_11 : ∀ (S_12 : RSt) (_ : tJ_11 S_12 = some S') (H : Heap) (locs : List Loc) (ls : Array Slot), va_P D vwCl ((mw_w cy ad) S_12) H → va_D A ((mw_w cy ad) S_12) → va_S A s.heap H locs → lv_has ls 5 [(0, .ref (ad 0))] → W p l e rmX5_go s m ([.ref (ad 0)] : List Value).toArray below meth c H locs 0 0 (km_Qv below D (mw_t cy) (mw_w cy ad) A ([.ref (ad 0)] : List Value).toArray s S') (F0 m 93 ls []) := by
    intro S_12 h H locs ls hP hD hS hl
    rw [← hT_86] at h
    refine lv_aload_n hx hb dX5_go_93 rfl (lv_at hl 0 rfl) ?_
    refine va_get (D := D) (ci := 5) (v := .int (st_i S_12 3)) (C := RX5) (T := TX5) (N := 31) hx hb hts ni_X5_go_X5 hown hK hP 0 mw_M rfl 4 (by decide) (hts _ nf_X5_go_f21) (fun _ h9 => h9) rfl dX5_go_94 ?_
    refine lv_aload_n hx hb dX5_go_97 rfl (lv_at hl 0 rfl) ?_
    refine va_get (D := D) (ci := 5) (v := .int (st_i S_12 2)) (C := RX5) (T := TX5) (N := 31) hx hb hts ni_X5_go_X5 hown hK hP 0 mw_M rfl 3 (by decide) (hts _ nf_X5_go_f18) (fun _ h9 => h9) rfl dX5_go_98 ?_
    refine lv_icmp_lt (tgt := 110) hx hb dX5_go_101 (by decide) (fun c_13 => ?_) (fun c_13 => ?_)
    · have h := ob_t c_13 h
      refine lv_aload_n hx hb dX5_go_110 rfl (lv_at hl 0 rfl) ?_
      refine va_get (D := D) (ci := 5) (v := .ref (ad 1)) (C := RX5) (T := TX5) (N := 31) hx hb hts ni_X5_go_X5 hown hK hP 0 mw_M rfl 1 (by decide) (hts _ nf_X5_go_f7) (fun _ h9 => h9) rfl dX5_go_111 ?_
      refine lv_aload_n hx hb dX5_go_114 rfl (lv_at hl 0 rfl) ?_
      refine va_get (D := D) (ci := 5) (v := .int (st_i S_12 3)) (C := RX5) (T := TX5) (N := 31) hx hb hts ni_X5_go_X5 hown hK hP 0 mw_M rfl 4 (by decide) (hts _ nf_X5_go_f21) (fun _ h9 => h9) rfl dX5_go_115 ?_
      obtain ⟨hv_14, h⟩ := ob_in_s h
      refine va_iald hx hb hK hP 1 0 mw_tape rfl hv_14 dX5_go_118 ?_
      refine lv_istore_n (lv' := [(1, .int (st_a S_12 0 (st_i S_12 3).toNatClampNeg)), (0, .ref (ad 0))]) hx hb dX5_go_119 rfl hl (by decide) rfl (fun ls hl => ?_)
      refine lv_iload_n hx hb dX5_go_120 rfl (lv_at hl 0 rfl) ?_
      obtain ⟨r_16, S_17, hc_15, h⟩ := ob_2s h
      refine km_cSz (As := [.int (st_a S_12 0 (st_i S_12 3).toNatClampNeg)]) (rest := []) C (kX5_isLetter hEE hc_15) (va_cwS 1 hts gX5_go_X5_isLetter rfl rfl rfl (by decide +kernel) ⟨(Nat.le_of_ble_eq_true rfl), (Nat.le_of_ble_eq_true rfl)⟩) rfl hP hD hS hl.1 rfl (Nat.le_of_ble_eq_true rfl) dX5_go_121 (fun H locs hP hD hS hz_18 => ?_)
      obtain ⟨tJ_19, hT_75, h⟩ := ob_js h
      have kJ_19 : ∀ (S_20 : RSt) (_ : tJ_19 S_20 = some S') (H : Heap) (locs : List Loc) (ls : Array Slot), va_P D vwCl ((mw_w cy ad) S_20) H → va_D A ((mw_w cy ad) S_20) → va_S A s.heap H locs → lv_has ls 5 [(0, .ref (ad 0)), (1, .int (st_a S_12 0 (st_i S_12 3).toNatClampNeg))] → W p l e rmX5_go s m ([.ref (ad 0)] : List Value).toArray below meth c H locs 0 0 (km_Qv below D (mw_t cy) (mw_w cy ad) A ([.ref (ad 0)] : List Value).toArray s S') (F0 m 160 ls []) := by
        intro S_20 h H locs ls hP hD hS hl
        rw [← hT_75] at h
        refine lv_iload_n hx hb dX5_go_160 rfl (lv_at hl 1 rfl) ?_
        obtain ⟨r_22, S_23, hc_21, h⟩ := ob_2s h
        refine km_cSz (As := [.int (st_a S_12 0 (st_i S_12 3).toNatClampNeg)]) (rest := []) C (kX5_isLetter hEE hc_21) (va_cwS 1 hts gX5_go_X5_isLetter rfl rfl rfl (by decide +kernel) ⟨(Nat.le_of_ble_eq_true rfl), (Nat.le_of_ble_eq_true rfl)⟩) rfl hP hD hS hl.1 rfl (Nat.le_of_ble_eq_true rfl) dX5_go_161 (fun H locs hP hD hS hz_24 => ?_)
        refine lv_istore_n (lv' := [(2, .int r_22), (0, .ref (ad 0)), (1, .int (st_a S_12 0 (st_i S_12 3).toNatClampNeg))]) hx hb dX5_go_164 rfl hl (by decide) rfl (fun ls hl => ?_)
        refine lv_iconst (v := 1) hx hb dX5_go_165 (by decide) ?_
        refine lv_istore_n (lv' := [(3, .int (1 : Int32)), (2, .int r_22), (0, .ref (ad 0)), (1, .int (st_a S_12 0 (st_i S_12 3).toNatClampNeg))]) hx hb dX5_go_166 rfl hl (by decide) rfl (fun ls hl => ?_)
        refine lv_aload_n hx hb dX5_go_167 rfl (lv_at hl 2 rfl) ?_
        refine lv_lconst (v := 0) hx hb dX5_go_168 (by decide) ?_
        refine va_put (D := D) (ci := 5) (v := .long (0 : Int64)) (ty := .long) (C := RX5) (T := TX5) (N := 31) hx hb hts ni_X5_go_X5 tyX5 tyX5_ok nmX5 hown hK hP hD hS 0 mw_M rfl 10 (by decide) (hts _ nf_X5_go_f37) (fun _ h9 => h9) rfl (by decide +kernel) rfl rfl (Nat.le_of_ble_eq_true rfl) dX5_go_169 (fun H locs hP hD hS => ?_)
        have hP := st_ps mw_s_word hP
        have hD := st_ds mw_s_word hD
        refine lv_aload_n hx hb dX5_go_172 rfl (lv_at hl 2 rfl) ?_
        refine lv_iconst (v := 0) hx hb dX5_go_173 (by decide) ?_
        refine va_put (D := D) (ci := 5) (v := .int (0 : Int32)) (ty := .int) (C := RX5) (T := TX5) (N := 31) hx hb hts ni_X5_go_X5 tyX5 tyX5_ok nmX5 hown hK hP hD hS 0 mw_M rfl 7 (by decide) (hts _ nf_X5_go_f41) (fun _ h9 => h9) rfl (by decide +kernel) rfl rfl (Nat.le_of_ble_eq_true rfl) dX5_go_174 (fun H locs hP hD hS => ?_)
        have hP := st_ps mw_s_number hP
        have hD := st_ds mw_s_number hD
        obtain ⟨o_67, S_66, hq_65, h⟩ := ob_2s h
        refine kX5_go_L177  C _ _ _ _ _ _ hq_65 hP hD hS (lv_sub hl [2, 1, 0] rfl) (fun H locs ls hP hD hS hl => ?_)
        refine lv_aload_n hx hb dX5_go_312 rfl (lv_at hl 0 rfl) ?_
        refine lv_iload_n hx hb dX5_go_313 rfl (lv_at hl 2 rfl) ?_
        refine lv_if_eq (tgt := 334) hx hb dX5_go_314 (by decide) (fun c_68 => ?_) (fun c_68 => ?_)
        · have h := ob_t c_68 h
          refine lv_iconst (v := 1) hx hb dX5_go_334 (by decide) ?_
          refine lv_goto (tgt := 347) hx hb dX5_go_335 (by decide) ?_
          refine va_put (D := D) (ci := 5) (v := .int (1 : Int32)) (ty := .int) (C := RX5) (T := TX5) (N := 31) hx hb hts ni_X5_go_X5 tyX5 tyX5_ok nmX5 hown hK hP hD hS 0 mw_M rfl 6 (by decide) (hts _ nf_X5_go_f27) (fun _ h9 => h9) rfl (by decide +kernel) rfl rfl (Nat.le_of_ble_eq_true rfl) dX5_go_347 (fun H locs hP hD hS => ?_)
          have hP := st_ps mw_s_sort hP
          have hD := st_ds mw_s_sort hD
          obtain rfl := ob_v h
          exact km_vret C hP hD hS dX5_go_350
        · have h := ob_f c_68 h
          refine lv_iload_n hx hb dX5_go_317 rfl (lv_at hl 1 rfl) ?_
          obtain ⟨tJ_69, hT_72, h⟩ := ob_js h
          have kJ_69 : ∀ (S_70 : RSt) (_ : tJ_69 S_70 = some S') (H : Heap) (locs : List Loc) (ls : Array Slot), va_P D vwCl ((mw_w cy ad) S_70) H → va_D A ((mw_w cy ad) S_70) → va_S A s.heap H locs → lv_has ls 5 [(2, .int r_22)] → W p l e rmX5_go s m ([.ref (ad 0)] : List Value).toArray below meth c H locs 0 0 (km_Qv below D (mw_t cy) (mw_w cy ad) A ([.ref (ad 0)] : List Value).toArray s S') (F0 m 338 ls [.ref (ad 0)]) := by
            intro S_70 h H locs ls hP hD hS hl
            rw [← hT_72] at h
            refine lv_iload_n hx hb dX5_go_338 rfl (lv_at hl 0 rfl) ?_
            refine lv_if_eq (tgt := 346) hx hb dX5_go_339 (by decide) (fun c_71 => ?_) (fun c_71 => ?_)
            · have h := ob_t c_71 h
              refine lv_iconst (v := 3) hx hb dX5_go_346 (by decide) ?_
              refine va_put (D := D) (ci := 5) (v := .int (3 : Int32)) (ty := .int) (C := RX5) (T := TX5) (N := 31) hx hb hts ni_X5_go_X5 tyX5 tyX5_ok nmX5 hown hK hP hD hS 0 mw_M rfl 6 (by decide) (hts _ nf_X5_go_f27) (fun _ h9 => h9) rfl (by decide +kernel) rfl rfl (Nat.le_of_ble_eq_true rfl) dX5_go_347 (fun H locs hP hD hS => ?_)
              have hP := st_ps mw_s_sort hP
              have hD := st_ds mw_s_sort hD
              obtain rfl := ob_v h
              exact km_vret C hP hD hS dX5_go_350
            · have h := ob_f c_71 h
              refine lv_iconst (v := 2) hx hb dX5_go_342 (by decide) ?_
              refine lv_goto (tgt := 347) hx hb dX5_go_343 (by decide) ?_
              refine va_put (D := D) (ci := 5) (v := .int (2 : Int32)) (ty := .int) (C := RX5) (T := TX5) (N := 31) hx hb hts ni_X5_go_X5 tyX5 tyX5_ok nmX5 hown hK hP hD hS 0 mw_M rfl 6 (by decide) (hts _ nf_X5_go_f27) (fun _ h9 => h9) rfl (by decide +kernel) rfl rfl (Nat.le_of_ble_eq_true rfl) dX5_go_347 (fun H locs hP hD hS => ?_)
              have hP := st_ps mw_s_sort hP
              have hD := st_ds mw_s_sort hD
              obtain rfl := ob_v h
              exact km_vret C hP hD hS dX5_go_350
          refine lv_if_ne (tgt := 338) hx hb dX5_go_318 (by decide) (fun c_73 => ?_) (fun c_73 => ?_)
          · have h := ob_f c_73 h
            exact kJ_69  _ h _ _ _ hP hD hS (lv_sub hl [1] rfl)
          · have h := ob_t c_73 h
            refine lv_aload_n hx hb dX5_go_321 rfl (lv_at hl 0 rfl) ?_
            refine va_get (D := D) (ci := 5) (v := .int (st_i S_66 3)) (C := RX5) (T := TX5) (N := 31) hx hb hts ni_X5_go_X5 hown hK hP 0 mw_M rfl 4 (by decide) (hts _ nf_X5_go_f21) (fun _ h9 => h9) rfl dX5_go_322 ?_
            refine lv_aload_n hx hb dX5_go_325 rfl (lv_at hl 0 rfl) ?_
            refine va_get (D := D) (ci := 5) (v := .int (st_i S_66 4)) (C := RX5) (T := TX5) (N := 31) hx hb hts ni_X5_go_X5 hown hK hP 0 mw_M rfl 5 (by decide) (hts _ nf_X5_go_f24) (fun _ h9 => h9) rfl dX5_go_326 ?_
            refine lv_isub hx hb dX5_go_329 ?_
            refine lv_iconst (v := 3) hx hb dX5_go_330 (by decide) ?_
            refine lv_icmp_le (tgt := 338) hx hb dX5_go_331 (by decide) (fun c_74 => ?_) (fun c_74 => ?_)
            · have h := ob_t c_74 h
              exact kJ_69  _ h _ _ _ hP hD hS (lv_sub hl [1] rfl)
            · have h := ob_f c_74 h
              refine lv_iconst (v := 1) hx hb dX5_go_334 (by decide) ?_
              refine lv_goto (tgt := 347) hx hb dX5_go_335 (by decide) ?_
              refine va_put (D := D) (ci := 5) (v := .int (1 : Int32)) (ty := .int) (C := RX5) (T := TX5) (N := 31) hx hb hts ni_X5_go_X5 tyX5 tyX5_ok nmX5 hown hK hP hD hS 0 mw_M rfl 6 (by decide) (hts _ nf_X5_go_f27) (fun _ h9 => h9) rfl (by decide +kernel) rfl rfl (Nat.le_of_ble_eq_true rfl) dX5_go_347 (fun H locs hP hD hS => ?_)
              have hP := st_ps mw_s_sort hP
              have hD := st_ds mw_s_sort hD
              obtain rfl := ob_v h
              exact km_vret C hP hD hS dX5_go_350
      refine lv_if_ne (tgt := 160) hx hb dX5_go_124 (by decide) (fun c_76 => ?_) (fun c_76 => ?_)
      · have h := ob_f c_76 h
        exact kJ_19  _ h _ _ _ hP hD hS (lv_sub hl [1, 0] rfl)
      · have h := ob_t c_76 h
        refine lv_iload_n hx hb dX5_go_127 rfl (lv_at hl 0 rfl) ?_
        obtain ⟨r_78, S_79, hc_77, h⟩ := ob_2s h
        refine km_cSz (As := [.int (st_a S_12 0 (st_i S_12 3).toNatClampNeg)]) (rest := []) C (kX5_isDigit hEE hc_77) (va_cwS 1 hts gX5_go_X5_isDigit rfl rfl rfl (by decide +kernel) ⟨(Nat.le_of_ble_eq_true rfl), (Nat.le_of_ble_eq_true rfl)⟩) rfl hP hD hS hl.1 rfl (Nat.le_of_ble_eq_true rfl) dX5_go_128 (fun H locs hP hD hS hz_80 => ?_)
        refine lv_if_ne (tgt := 160) hx hb dX5_go_131 (by decide) (fun c_81 => ?_) (fun c_81 => ?_)
        · have h := ob_f c_81 h
          exact kJ_19  _ h _ _ _ hP hD hS (lv_sub hl [1, 0] rfl)
        · have h := ob_t c_81 h
          refine lv_aload_n hx hb dX5_go_134 rfl (lv_at hl 1 rfl) ?_
          refine lv_iload_n hx hb dX5_go_135 rfl (lv_at hl 0 rfl) ?_
          refine lv_bipush (v := 59) hx hb dX5_go_136 (by decide) ?_
          obtain ⟨tJ_82, hT_84, h⟩ := ob_js h
          have kJ_82 : ∀ (sJ_82_0 : Int32) (S_83 : RSt) (_ : tJ_82 sJ_82_0 S_83 = some S') (H : Heap) (locs : List Loc) (ls : Array Slot), va_P D vwCl ((mw_w cy ad) S_83) H → va_D A ((mw_w cy ad) S_83) → va_S A s.heap H locs → lv_has ls 5 [(0, .ref (ad 0))] → W p l e rmX5_go s m ([.ref (ad 0)] : List Value).toArray below meth c H locs 0 0 (km_Qv below D (mw_t cy) (mw_w cy ad) A ([.ref (ad 0)] : List Value).toArray s S') (F0 m 146 ls [.int sJ_82_0, .ref (ad 0)]) := by
            intro sJ_82_0 S_83 h H locs ls hP hD hS hl
            rw [← hT_84] at h
            refine va_put (D := D) (ci := 5) (v := .int sJ_82_0) (ty := .int) (C := RX5) (T := TX5) (N := 31) hx hb hts ni_X5_go_X5 tyX5 tyX5_ok nmX5 hown hK hP hD hS 0 mw_M rfl 6 (by decide) (hts _ nf_X5_go_f27) (fun _ h9 => h9) rfl (by decide +kernel) rfl rfl (Nat.le_of_ble_eq_true rfl) dX5_go_146 (fun H locs hP hD hS => ?_)
            have hP := st_ps mw_s_sort hP
            have hD := st_ds mw_s_sort hD
            refine lv_aload_n hx hb dX5_go_149 rfl (lv_at hl 0 rfl) ?_
            refine lv_dup hx hb dX5_go_150 rfl ?_
            refine va_get (D := D) (ci := 5) (v := .int (st_i (st_si S_83 5 sJ_82_0) 3)) (C := RX5) (T := TX5) (N := 31) hx hb hts ni_X5_go_X5 hown hK hP 0 mw_M rfl 4 (by decide) (hts _ nf_X5_go_f21) (fun _ h9 => h9) rfl dX5_go_151 ?_
            refine lv_iconst (v := 1) hx hb dX5_go_154 (by decide) ?_
            refine lv_iadd hx hb dX5_go_155 ?_
            refine va_put (D := D) (ci := 5) (v := .int ((st_i (st_si S_83 5 sJ_82_0) 3) + (1 : Int32))) (ty := .int) (C := RX5) (T := TX5) (N := 31) hx hb hts ni_X5_go_X5 tyX5 tyX5_ok nmX5 hown hK hP hD hS 0 mw_M rfl 4 (by decide) (hts _ nf_X5_go_f21) (fun _ h9 => h9) rfl (by decide +kernel) rfl rfl (Nat.le_of_ble_eq_true rfl) dX5_go_156 (fun H locs hP hD hS => ?_)
            have hP := st_ps mw_s_to hP
            have hD := st_ds mw_s_to hD
            obtain rfl := ob_v h
            exact km_vret C hP hD hS dX5_go_159
          refine lv_icmp_ne (tgt := 145) hx hb dX5_go_138 (by decide) (fun c_85 => ?_) (fun c_85 => ?_)
          · have h := ob_f c_85 h
            refine lv_iconst (v := 1) hx hb dX5_go_145 (by decide) ?_
            exact kJ_82 _ _ h _ _ _ hP hD hS (lv_sub hl [1] rfl)
          · have h := ob_t c_85 h
            refine lv_iconst (v := 4) hx hb dX5_go_141 (by decide) ?_
            refine lv_goto (tgt := 146) hx hb dX5_go_142 (by decide) ?_
            exact kJ_82 _ _ h _ _ _ hP hD hS (lv_sub hl [1] rfl)
    · have h := ob_f c_13 h
      refine lv_aload_n hx hb dX5_go_104 rfl (lv_at hl 0 rfl) ?_
      refine lv_iconst (v := 0) hx hb dX5_go_105 (by decide) ?_
      refine va_put (D := D) (ci := 5) (v := .int (0 : Int32)) (ty := .int) (C := RX5) (T := TX5) (N := 31) hx hb hts ni_X5_go_X5 tyX5 tyX5_ok nmX5 hown hK hP hD hS 0 mw_M rfl 6 (by decide) (hts _ nf_X5_go_f27) (fun _ h9 => h9) rfl (by decide +kernel) rfl rfl (Nat.le_of_ble_eq_true rfl) dX5_go_106 (fun H locs hP hD hS => ?_)
      have hP := st_ps mw_s_sort hP
      have hD := st_ds mw_s_sort hD
      obtain rfl := ob_v h
      exact km_vret C hP hD hS dX5_go_109
  refine lv_icmp_le (tgt := 93) hx hb dX5_go_67 (by decide) (fun c_87 => ?_) (fun c_87 => ?_)
  · have h := ob_t c_87 h
    exact kJ_11  _ h _ _ _ hP hD hS (lv_sub hl [0] rfl)
  · have h := ob_f c_87 h
    refine lv_aload_n hx hb dX5_go_70 rfl (lv_at hl 0 rfl) ?_
    refine va_get (D := D) (ci := 5) (v := .int (st_i (st_si S_10 4 (st_i S_10 3)) 4)) (C := RX5) (T := TX5) (N := 31) hx hb hts ni_X5_go_X5 hown hK hP 0 mw_M rfl 5 (by decide) (hts _ nf_X5_go_f24) (fun _ h9 => h9) rfl dX5_go_71 ?_
    refine lv_sipush (v := 500) hx hb dX5_go_74 (by decide) ?_
    refine lv_icmp_lt (tgt := 93) hx hb dX5_go_77 (by decide) (fun c_88 => ?_) (fun c_88 => ?_)
    · have h := ob_t c_88 h
      exact kJ_11  _ h _ _ _ hP hD hS (lv_sub hl [0] rfl)
    · have h := ob_f c_88 h
      refine lv_aload_n hx hb dX5_go_80 rfl (lv_at hl 0 rfl) ?_
      refine lv_sipush (v := 500) hx hb dX5_go_81 (by decide) ?_
      refine va_put (D := D) (ci := 5) (v := .int (500 : Int32)) (ty := .int) (C := RX5) (T := TX5) (N := 31) hx hb hts ni_X5_go_X5 tyX5 tyX5_ok nmX5 hown hK hP hD hS 0 mw_M rfl 5 (by decide) (hts _ nf_X5_go_f24) (fun _ h9 => h9) rfl (by decide +kernel) rfl rfl (Nat.le_of_ble_eq_true rfl) dX5_go_84 (fun H locs hP hD hS => ?_)
      have hP := st_ps mw_s_from hP
      have hD := st_ds mw_s_from hD
      refine lv_aload_n hx hb dX5_go_87 rfl (lv_at hl 0 rfl) ?_
      refine lv_iconst (v := 1) hx hb dX5_go_88 (by decide) ?_
      refine va_put (D := D) (ci := 5) (v := .int (1 : Int32)) (ty := .int) (C := RX5) (T := TX5) (N := 31) hx hb hts ni_X5_go_X5 tyX5 tyX5_ok nmX5 hown hK hP hD hS 0 mw_M rfl 6 (by decide) (hts _ nf_X5_go_f27) (fun _ h9 => h9) rfl (by decide +kernel) rfl rfl (Nat.le_of_ble_eq_true rfl) dX5_go_89 (fun H locs hP hD hS => ?_)
      have hP := st_ps mw_s_sort hP
      have hD := st_ds mw_s_sort hD
      obtain rfl := ob_v h
      exact km_vret C hP hD hS dX5_go_92
def fX5_two (x0 : Int32) (x1 : Int32) (S : RSt) : Option (Int64 × RSt) := (some ((((27 : Int64) * (x0.toInt64 - (96 : Int64))) + x1.toInt64) - (96 : Int64), S))
abbrev rmX5_two : Room := { frames := 0, cells := 0, slots := 0, locals := 0 }
theorem nf_X5_two_c48 : Cond.constantLong RX5 48 (27) ∈ wsX5_two := by decide +kernel
theorem nf_X5_two_c50 : Cond.constantLong RX5 50 (96) ∈ wsX5_two := by decide +kernel
set_option maxHeartbeats 4000000 in
set_option maxRecDepth 100000 in
theorem kX5_two {l : Launch} {D : va_G} {cy : Nat → ClassId} {ad : Nat → Nat} {E : ke_T} (hEE : km_E E) {x0 : Int32} {x1 : Int32} {S : RSt} {r : Int64} {S' : RSt} (h : fX5_two x0 x1 S = some (r, S')) : km_l l D (mw_t cy) (mw_w cy ad) E yX5_two wsX5_two rmX5_two [.int x0, .int x1] S r S' := by
  refine km_l_in (cc := cX5_two) (nL := 2) hEE (by decide) rfl (Nat.le_of_ble_eq_true rfl) ?_
  intro p e s m below meth c A H ls C hP hD hS hl
  have C : km_C p s m _ meth c cX5_two 2 RX5 wsX5_two (some .long) D (mw_t cy) E A := C
  obtain ⟨⟨hx, hb, hml, hown, hts⟩, hr, hlk, hK, hA, hE, hEE⟩ := id C
  have hl : lv_has ls 2 [(0, .int x0), (1, .int x1)] := hl
  unfold fX5_two at h
  refine lv_ldc2 (v := 27) hx hb hown (hts _ nf_X5_two_c48) dX5_two_0 ?_
  refine lv_iload_n hx hb dX5_two_3 rfl (lv_at hl 0 rfl) ?_
  refine lv_i2l hx hb dX5_two_4 rfl ?_
  refine lv_ldc2 (v := 96) hx hb hown (hts _ nf_X5_two_c50) dX5_two_5 ?_
  refine lv_lsub hx hb dX5_two_8 ?_
  refine lv_lmul hx hb dX5_two_9 ?_
  refine lv_iload_n hx hb dX5_two_10 rfl (lv_at hl 1 rfl) ?_
  refine lv_i2l hx hb dX5_two_11 rfl ?_
  refine lv_ladd hx hb dX5_two_12 ?_
  refine lv_ldc2 (v := 96) hx hb hown (hts _ nf_X5_two_c50) dX5_two_13 ?_
  refine lv_lsub hx hb dX5_two_16 ?_
  obtain ⟨rfl, rfl⟩ := ob_w h
  exact km_lret C hP hD hS dX5_two_17
def fX5_four (x0 : Int32) (x1 : Int32) (x2 : Int32) (x3 : Int32) (S : RSt) : Option (Int64 × RSt) := (ob_2 (fX5_two x0 x1 S) fun r_2 S_3 => (ob_2 (fX5_two x2 x3 S_3) fun r_5 S_6 => (some (((729 : Int64) * r_2) + r_5, S_6))))
abbrev rmX5_four : Room := { frames := 1, cells := 0, slots := 0, locals := 21 }
theorem nf_X5_four_c52 : Cond.constantLong RX5 52 (729) ∈ wsX5_four := by decide +kernel
set_option maxHeartbeats 4000000 in
set_option maxRecDepth 100000 in
theorem kX5_four {l : Launch} {D : va_G} {cy : Nat → ClassId} {ad : Nat → Nat} {E : ke_T} (hEE : km_E E) {x0 : Int32} {x1 : Int32} {x2 : Int32} {x3 : Int32} {S : RSt} {r : Int64} {S' : RSt} (h : fX5_four x0 x1 x2 x3 S = some (r, S')) : km_l l D (mw_t cy) (mw_w cy ad) E yX5_four wsX5_four rmX5_four [.int x0, .int x1, .int x2, .int x3] S r S' := by
  refine km_l_in (cc := cX5_four) (nL := 4) hEE (by decide) rfl (Nat.le_of_ble_eq_true rfl) ?_
  intro p e s m below meth c A H ls C hP hD hS hl
  have C : km_C p s m _ meth c cX5_four 4 RX5 wsX5_four (some .long) D (mw_t cy) E A := C
  obtain ⟨⟨hx, hb, hml, hown, hts⟩, hr, hlk, hK, hA, hE, hEE⟩ := id C
  have hl : lv_has ls 4 [(0, .int x0), (1, .int x1), (2, .int x2), (3, .int x3)] := hl
  unfold fX5_four at h
  refine lv_ldc2 (v := 729) hx hb hown (hts _ nf_X5_four_c52) dX5_four_0 ?_
  refine lv_iload_n hx hb dX5_four_3 rfl (lv_at hl 0 rfl) ?_
  refine lv_iload_n hx hb dX5_four_4 rfl (lv_at hl 1 rfl) ?_
  obtain ⟨r_2, S_3, hc_1, h⟩ := ob_2s h
  refine km_cSl (As := [.int x0, .int x1]) (rest := [.long (729 : Int64)]) C (kX5_two hEE hc_1) (va_cwS 2 hts gX5_four_X5_two rfl rfl rfl (by decide +kernel) ⟨(Nat.le_of_ble_eq_true rfl), (Nat.le_of_ble_eq_true rfl)⟩) rfl hP hD hS hl.1 rfl (Nat.le_of_ble_eq_true rfl) dX5_four_5 (fun H locs hP hD hS => ?_)
  refine lv_lmul hx hb dX5_four_8 ?_
  refine lv_iload_n hx hb dX5_four_9 rfl (lv_at hl 2 rfl) ?_
  refine lv_iload_n hx hb dX5_four_10 rfl (lv_at hl 3 rfl) ?_
  obtain ⟨r_5, S_6, hc_4, h⟩ := ob_2s h
  refine km_cSl (As := [.int x2, .int x3]) (rest := [.long ((729 : Int64) * r_2)]) C (kX5_two hEE hc_4) (va_cwS 2 hts gX5_four_X5_two rfl rfl rfl (by decide +kernel) ⟨(Nat.le_of_ble_eq_true rfl), (Nat.le_of_ble_eq_true rfl)⟩) rfl hP hD hS hl.1 rfl (Nat.le_of_ble_eq_true rfl) dX5_four_11 (fun H locs hP hD hS => ?_)
  refine lv_ladd hx hb dX5_four_14 ?_
  obtain ⟨rfl, rfl⟩ := ob_w h
  exact km_lret C hP hD hS dX5_four_15
def fX5_isWord (x1 : Int64) (S : RSt) : Option (Int32 × RSt) := (if (st_i S 5) = (2 : Int32) then (if (lg_cmp (st_j S 0) x1) = 0 then (some ((1 : Int32), S)) else (some ((0 : Int32), S))) else (some ((0 : Int32), S)))
abbrev rmX5_isWord : Room := { frames := 0, cells := 0, slots := 0, locals := 0 }
theorem nf_X5_isWord_f27 : Cond.fieldLink RX5 27 "RepeatIndexModel" "sort" "I" ∈ wsX5_isWord := by decide +kernel
theorem ni_X5_isWord_X5 : ∀ w ∈ u_ws RX5 TX5 31, w ∈ wsX5_isWord := by decide +kernel
theorem nf_X5_isWord_f37 : Cond.fieldLink RX5 37 "RepeatIndexModel" "word" "J" ∈ wsX5_isWord := by decide +kernel
set_option maxHeartbeats 4000000 in
set_option maxRecDepth 100000 in
theorem kX5_isWord {l : Launch} {D : va_G} {cy : Nat → ClassId} {ad : Nat → Nat} {E : ke_T} (hEE : km_E E) {x1 : Int64} {S : RSt} {r : Int32} {S' : RSt} (h : fX5_isWord x1 S = some (r, S')) : km_z l D (mw_t cy) (mw_w cy ad) E yX5_isWord wsX5_isWord rmX5_isWord [.ref (ad 0), .long x1] S r S' := by
  refine km_z_in (cc := cX5_isWord) (nL := 3) hEE (by decide) rfl (Nat.le_of_ble_eq_true rfl) ?_
  intro p e s m below meth c A H ls C hP hD hS hl
  have C : km_C p s m _ meth c cX5_isWord 3 RX5 wsX5_isWord (some .boolean) D (mw_t cy) E A := C
  obtain ⟨⟨hx, hb, hml, hown, hts⟩, hr, hlk, hK, hA, hE, hEE⟩ := id C
  have hl : lv_has ls 3 [(0, .ref (ad 0)), (1, .long x1)] := hl
  unfold fX5_isWord at h
  refine lv_aload_n hx hb dX5_isWord_0 rfl (lv_at hl 0 rfl) ?_
  refine va_get (D := D) (ci := 5) (v := .int (st_i S 5)) (C := RX5) (T := TX5) (N := 31) hx hb hts ni_X5_isWord_X5 hown hK hP 0 mw_M rfl 6 (by decide) (hts _ nf_X5_isWord_f27) (fun _ h9 => h9) rfl dX5_isWord_1 ?_
  refine lv_iconst (v := 2) hx hb dX5_isWord_4 (by decide) ?_
  refine lv_icmp_ne (tgt := 21) hx hb dX5_isWord_5 (by decide) (fun c_1 => ?_) (fun c_1 => ?_)
  · have h := ob_f c_1 h
    refine lv_iconst (v := 0) hx hb dX5_isWord_21 (by decide) ?_
    obtain ⟨rfl, rfl⟩ := ob_w h
    exact km_zret C (by decide) hP hD hS dX5_isWord_22
  · have h := ob_t c_1 h
    refine lv_aload_n hx hb dX5_isWord_8 rfl (lv_at hl 0 rfl) ?_
    refine va_get (D := D) (ci := 5) (v := .long (st_j S 0)) (C := RX5) (T := TX5) (N := 31) hx hb hts ni_X5_isWord_X5 hown hK hP 0 mw_M rfl 10 (by decide) (hts _ nf_X5_isWord_f37) (fun _ h9 => h9) rfl dX5_isWord_9 ?_
    refine lv_lload_n hx hb dX5_isWord_12 rfl (lv_at hl 1 rfl) ?_
    refine W.lcmp hx hb dX5_isWord_13 ?_
    refine lv_if_ne (tgt := 21) hx hb dX5_isWord_14 (by decide) (fun c_2 => ?_) (fun c_2 => ?_)
    · have h := ob_f c_2 h
      refine lv_iconst (v := 0) hx hb dX5_isWord_21 (by decide) ?_
      obtain ⟨rfl, rfl⟩ := ob_w h
      exact km_zret C (by decide) hP hD hS dX5_isWord_22
    · have h := ob_t c_2 h
      refine lv_iconst (v := 1) hx hb dX5_isWord_17 (by decide) ?_
      refine lv_goto (tgt := 22) hx hb dX5_isWord_18 (by decide) ?_
      obtain ⟨rfl, rfl⟩ := ob_w h
      exact km_zret C (by decide) hP hD hS dX5_isWord_22
def fX5_bad (x1 : Int32) (S : RSt) : Option (Int32 × RSt) := (ob_j (fun (sJ_1_0 : Int32) (S_2 : RSt) => (some ((0 : Int32), (st_si (st_si S_2 7 sJ_1_0) 8 (st_i (st_si S_2 7 sJ_1_0) 4))))) fun tJ_1 => (if (st_i S 5) = (1 : Int32) then (tJ_1 (1 : Int32) S) else (tJ_1 x1 S)))
abbrev rmX5_bad : Room := { frames := 0, cells := 0, slots := 0, locals := 0 }
theorem nf_X5_bad_f27 : Cond.fieldLink RX5 27 "RepeatIndexModel" "sort" "I" ∈ wsX5_bad := by decide +kernel
theorem ni_X5_bad_X5 : ∀ w ∈ u_ws RX5 TX5 31, w ∈ wsX5_bad := by decide +kernel
theorem nf_X5_bad_f58 : Cond.fieldLink RX5 58 "RepeatIndexModel" "fault" "I" ∈ wsX5_bad := by decide +kernel
theorem nf_X5_bad_f24 : Cond.fieldLink RX5 24 "RepeatIndexModel" "from" "I" ∈ wsX5_bad := by decide +kernel
theorem nf_X5_bad_f61 : Cond.fieldLink RX5 61 "RepeatIndexModel" "place" "I" ∈ wsX5_bad := by decide +kernel
set_option maxHeartbeats 4000000 in
set_option maxRecDepth 100000 in
theorem kX5_bad {l : Launch} {D : va_G} {cy : Nat → ClassId} {ad : Nat → Nat} {E : ke_T} (hEE : km_E E) {x1 : Int32} {S : RSt} {r : Int32} {S' : RSt} (h : fX5_bad x1 S = some (r, S')) : km_z l D (mw_t cy) (mw_w cy ad) E yX5_bad wsX5_bad rmX5_bad [.ref (ad 0), .int x1] S r S' := by
  refine km_z_in (cc := cX5_bad) (nL := 2) hEE (by decide) rfl (Nat.le_of_ble_eq_true rfl) ?_
  intro p e s m below meth c A H ls C hP hD hS hl
  have C : km_C p s m _ meth c cX5_bad 2 RX5 wsX5_bad (some .boolean) D (mw_t cy) E A := C
  obtain ⟨⟨hx, hb, hml, hown, hts⟩, hr, hlk, hK, hA, hE, hEE⟩ := id C
  have hl : lv_has ls 2 [(0, .ref (ad 0)), (1, .int x1)] := hl
  unfold fX5_bad at h
  refine lv_aload_n hx hb dX5_bad_0 rfl (lv_at hl 0 rfl) ?_
  refine lv_aload_n hx hb dX5_bad_1 rfl (lv_at hl 0 rfl) ?_
  refine va_get (D := D) (ci := 5) (v := .int (st_i S 5)) (C := RX5) (T := TX5) (N := 31) hx hb hts ni_X5_bad_X5 hown hK hP 0 mw_M rfl 6 (by decide) (hts _ nf_X5_bad_f27) (fun _ h9 => h9) rfl dX5_bad_2 ?_
  refine lv_iconst (v := 1) hx hb dX5_bad_5 (by decide) ?_
  obtain ⟨tJ_1, hT_3, h⟩ := ob_js h
  have kJ_1 : ∀ (sJ_1_0 : Int32) (S_2 : RSt) (_ : tJ_1 sJ_1_0 S_2 = some (r, S')) (H : Heap) (locs : List Loc) (ls : Array Slot), va_P D vwCl ((mw_w cy ad) S_2) H → va_D A ((mw_w cy ad) S_2) → va_S A s.heap H locs → lv_has ls 2 [(0, .ref (ad 0))] → W p l e rmX5_bad s m ([.ref (ad 0), .int x1] : List Value).toArray below meth c H locs 0 0 (km_Qz below D (mw_t cy) (mw_w cy ad) A ([.ref (ad 0), .int x1] : List Value).toArray s r S') (F0 m 14 ls [.int sJ_1_0, .ref (ad 0)]) := by
    intro sJ_1_0 S_2 h H locs ls hP hD hS hl
    rw [← hT_3] at h
    refine va_put (D := D) (ci := 5) (v := .int sJ_1_0) (ty := .int) (C := RX5) (T := TX5) (N := 31) hx hb hts ni_X5_bad_X5 tyX5 tyX5_ok nmX5 hown hK hP hD hS 0 mw_M rfl 8 (by decide) (hts _ nf_X5_bad_f58) (fun _ h9 => h9) rfl (by decide +kernel) rfl rfl (Nat.le_of_ble_eq_true rfl) dX5_bad_14 (fun H locs hP hD hS => ?_)
    have hP := st_ps mw_s_fault hP
    have hD := st_ds mw_s_fault hD
    refine lv_aload_n hx hb dX5_bad_17 rfl (lv_at hl 0 rfl) ?_
    refine lv_aload_n hx hb dX5_bad_18 rfl (lv_at hl 0 rfl) ?_
    refine va_get (D := D) (ci := 5) (v := .int (st_i (st_si S_2 7 sJ_1_0) 4)) (C := RX5) (T := TX5) (N := 31) hx hb hts ni_X5_bad_X5 hown hK hP 0 mw_M rfl 5 (by decide) (hts _ nf_X5_bad_f24) (fun _ h9 => h9) rfl dX5_bad_19 ?_
    refine va_put (D := D) (ci := 5) (v := .int (st_i (st_si S_2 7 sJ_1_0) 4)) (ty := .int) (C := RX5) (T := TX5) (N := 31) hx hb hts ni_X5_bad_X5 tyX5 tyX5_ok nmX5 hown hK hP hD hS 0 mw_M rfl 9 (by decide) (hts _ nf_X5_bad_f61) (fun _ h9 => h9) rfl (by decide +kernel) rfl rfl (Nat.le_of_ble_eq_true rfl) dX5_bad_22 (fun H locs hP hD hS => ?_)
    have hP := st_ps mw_s_place hP
    have hD := st_ds mw_s_place hD
    refine lv_iconst (v := 0) hx hb dX5_bad_25 (by decide) ?_
    obtain ⟨rfl, rfl⟩ := ob_w h
    exact km_zret C (by decide) hP hD hS dX5_bad_26
  refine lv_icmp_ne (tgt := 13) hx hb dX5_bad_6 (by decide) (fun c_4 => ?_) (fun c_4 => ?_)
  · have h := ob_f c_4 h
    refine lv_iload_n hx hb dX5_bad_13 rfl (lv_at hl 1 rfl) ?_
    exact kJ_1 _ _ h _ _ _ hP hD hS (lv_sub hl [0] rfl)
  · have h := ob_t c_4 h
    refine lv_iconst (v := 1) hx hb dX5_bad_9 (by decide) ?_
    refine lv_goto (tgt := 14) hx hb dX5_bad_10 (by decide) ?_
    exact kJ_1 _ _ h _ _ _ hP hD hS (lv_sub hl [0] rfl)
