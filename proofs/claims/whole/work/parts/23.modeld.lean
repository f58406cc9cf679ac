def fX5_common_L17 : Nat → Int64 → Int64 → RSt → Option (Int64 × RSt)
  | 0, _, _, _ => none
  | n + 1, x4, x6, S => (if (lg_cmp x6 (0 : Int64)) ≤ 0 then (some (x4, S)) else (ob_nz x6 (fX5_common_L17 n x6 (x4 - x4 / x6 * x6) S)))
def fX5_common (x0 : Int64) (x2 : Int64) (S : RSt) : Option (Int64 × RSt) := (ob_j (fun (sJ_1_0 : Int64) (S_2 : RSt) => (ob_2 (fX5_common_L17 1000 sJ_1_0 x2 S_2) fun o_7 S_6 => (some (o_7, S_6)))) fun tJ_1 => (if 0 ≤ (lg_cmp x0 (0 : Int64)) then (tJ_1 x0 S) else (tJ_1 (-x0) S)))
abbrev rmX5_common : Room := { frames := 0, cells := 0, slots := 0, locals := 0 }
set_option maxHeartbeats 4000000 in
set_option maxRecDepth 100000 in
theorem kX5_common_L17 {l : Launch} {D : va_G} {cy : Nat → ClassId} {ad : Nat → Nat} {E : ke_T} {p : Program} {e : Env} {s : State} {m : MethodId} {args : Array Value} {below : List Frame} {meth : Method} {c : Code} {A : Nat → Prop} {Q : State → Prop} (C : km_C p s m args meth c cX5_common 10 RX5 wsX5_common (some .long) D (mw_t cy) E A) : ∀ (n : Nat) (x4 : Int64) (x6 : Int64) (S : RSt) (o4 : Int64) (S' : RSt) (h : fX5_common_L17 n x4 x6 S = some (o4, S')) {H : Heap} {locs : List Loc} {ls : Array Slot} (hP : va_P D vwCl ((mw_w cy ad) S) H) (hD : va_D A ((mw_w cy ad) S)) (hS : va_S A s.heap H locs) (hl : lv_has ls 10 [(4, .long x4), (6, .long x6)]) (kx0 : ∀ (H : Heap) (locs : List Loc) (ls : Array Slot), va_P D vwCl ((mw_w cy ad) S') H → va_D A ((mw_w cy ad) S') → va_S A s.heap H locs → lv_has ls 10 [(4, .long o4)] → W p l e rmX5_common s m args below meth c H locs 0 0 Q (F0 m 42 ls [])), W p l e rmX5_common s m args below meth c H locs 0 0 Q (F0 m 17 ls []) := by
  obtain ⟨⟨hx, hb, hml, hown, hts⟩, hr, hlk, hK, hA, hE, hEE⟩ := id C
  intro n
  induction n with
  | zero =>
    intro x4 x6 S o4 S' h
    rw [fX5_common_L17] at h
    cases h
  | succ n ih =>
    intro x4 x6 S o4 S' h H locs ls hP hD hS hl kx0
    rw [fX5_common_L17] at h
    refine lv_lload hx hb dX5_common_17 (lv_at hl 1 rfl) ?_
    refine lv_lconst (v := 0) hx hb dX5_common_19 (by decide) ?_
    refine W.lcmp hx hb dX5_common_20 ?_
    refine lv_if_le (tgt := 42) hx hb dX5_common_21 (by decide) (fun c_3 => ?_) (fun c_3 => ?_)
    · have h := ob_t c_3 h
      cases h
      exact kx0 _ _ _ hP hD hS (lv_sub hl [0] rfl)
    · have h := ob_f c_3 h
      refine lv_lload hx hb dX5_common_24 (lv_at hl 0 rfl) ?_
      refine lv_lload hx hb dX5_common_26 (lv_at hl 1 rfl) ?_
      obtain ⟨hv_4, h⟩ := ob_nz_s h
      refine lv_lrem hx hb dX5_common_28 hv_4 ?_
      refine lv_lstore (lv' := [(8, .long (x4 - x4 / x6 * x6)), (4, .long x4), (6, .long x6)]) hx hb dX5_common_29 hl (by decide) rfl (fun ls hl => ?_)
      refine lv_lload hx hb dX5_common_31 (lv_at hl 2 rfl) ?_
      refine lv_lstore (lv' := [(4, .long x6), (8, .long (x4 - x4 / x6 * x6)), (6, .long x6)]) hx hb dX5_common_33 hl (by decide) rfl (fun ls hl => ?_)
      refine lv_lload hx hb dX5_common_35 (lv_at hl 1 rfl) ?_
      refine lv_lstore (lv' := [(6, .long (x4 - x4 / x6 * x6)), (4, .long x6), (8, .long (x4 - x4 / x6 * x6))]) hx hb dX5_common_37 hl (by decide) rfl (fun ls hl => ?_)
      refine lv_goto (tgt := 17) hx hb dX5_common_39 (by decide) ?_
      exact ih _ _ _ _ _ h hP hD hS (lv_sub hl [1, 0] rfl) kx0
set_option maxHeartbeats 4000000 in
set_option maxRecDepth 100000 in
theorem kX5_common {l : Launch} {D : va_G} {cy : Nat → ClassId} {ad : Nat → Nat} {E : ke_T} (hEE : km_E E) {x0 : Int64} {x2 : Int64} {S : RSt} {r : Int64} {S' : RSt} (h : fX5_common x0 x2 S = some (r, S')) : km_l l D (mw_t cy) (mw_w cy ad) E yX5_common wsX5_common rmX5_common [.long x0, .long x2] S r S' := by
  refine km_l_in (cc := cX5_common) (nL := 10) hEE (by decide) rfl (Nat.le_of_ble_eq_true rfl) ?_
  intro p e s m below meth c A H ls C hP hD hS hl
  have C : km_C p s m _ meth c cX5_common 10 RX5 wsX5_common (some .long) D (mw_t cy) E A := C
  obtain ⟨⟨hx, hb, hml, hown, hts⟩, hr, hlk, hK, hA, hE, hEE⟩ := id C
  have hl : lv_has ls 10 [(0, .long x0), (2, .long x2)] := hl
  unfold fX5_common at h
  refine lv_lload_n hx hb dX5_common_0 rfl (lv_at hl 0 rfl) ?_
  refine lv_lconst (v := 0) hx hb dX5_common_1 (by decide) ?_
  refine W.lcmp hx hb dX5_common_2 ?_
  obtain ⟨tJ_1, hT_8, h⟩ := ob_js h
  have kJ_1 : ∀ (sJ_1_0 : Int64) (S_2 : RSt) (_ : tJ_1 sJ_1_0 S_2 = some (r, S')) (H : Heap) (locs : List Loc) (ls : Array Slot), va_P D vwCl ((mw_w cy ad) S_2) H → va_D A ((mw_w cy ad) S_2) → va_S A s.heap H locs → lv_has ls 10 [(2, .long x2)] → W p l e rmX5_common s m ([.long x0, .long x2] : List Value).toArray below meth c H locs 0 0 (km_Ql below D (mw_t cy) (mw_w cy ad) A ([.long x0, .long x2] : List Value).toArray s r S') (F0 m 12 ls [.long sJ_1_0]) := by
    intro sJ_1_0 S_2 h H locs ls hP hD hS hl
    rw [← hT_8] at h
    refine lv_lstore (lv' := [(4, .long sJ_1_0), (2, .long x2)]) hx hb dX5_common_12 hl (by decide) rfl (fun ls hl => ?_)
    refine lv_lload_n hx hb dX5_common_14 rfl (lv_at hl 1 rfl) ?_
    refine lv_lstore (lv' := [(6, .long x2), (4, .long sJ_1_0), (2, .long x2)]) hx hb dX5_common_15 hl (by decide) rfl (fun ls hl => ?_)
    obtain ⟨o_7, S_6, hq_5, h⟩ := ob_2s h
    refine kX5_common_L17  C _ _ _ _ _ _ hq_5 hP hD hS (lv_sub hl [1, 0] rfl) (fun H locs ls hP hD hS hl => ?_)
    refine lv_lload hx hb dX5_common_42 (lv_at hl 0 rfl) ?_
    obtain ⟨rfl, rfl⟩ := ob_w h
    exact km_lret C hP hD hS dX5_common_44
  refine lv_if_ge (tgt := 11) hx hb dX5_common_3 (by decide) (fun c_9 => ?_) (fun c_9 => ?_)
  · have h := ob_t c_9 h
    refine lv_lload_n hx hb dX5_common_11 rfl (lv_at hl 0 rfl) ?_
    exact kJ_1 _ _ h _ _ _ hP hD hS (lv_sub hl [1] rfl)
  · have h := ob_f c_9 h
    refine lv_lload_n hx hb dX5_common_6 rfl (lv_at hl 0 rfl) ?_
    refine lv_lneg hx hb dX5_common_7 ?_
    refine lv_goto (tgt := 12) hx hb dX5_common_8 (by decide) ?_
    exact kJ_1 _ _ h _ _ _ hP hD hS (lv_sub hl [1] rfl)
def fX5_lowest (x1 : Int64) (x3 : Int32) (S : RSt) : Option (Int64 × RSt) := (ob_j (fun (sJ_1_0 : Int64) (S_2 : RSt) => (ob_2 (fX5_common x1 (st_j S_2 1) S_2) fun r_4 S_5 => (ob_nz r_4 (some (sJ_1_0 / r_4, S_5))))) fun tJ_1 => (if x3 = 0 then (tJ_1 x1 S) else (tJ_1 (st_j S 1) S)))
abbrev rmX5_lowest : Room := { frames := 1, cells := 0, slots := 0, locals := 29 }
theorem nf_X5_lowest_f203 : Cond.fieldLink RX5 203 "RepeatIndexModel" "lower" "J" ∈ wsX5_lowest := by decide +kernel
theorem ni_X5_lowest_X5 : ∀ w ∈ u_ws RX5 TX5 31, w ∈ wsX5_lowest := by decide +kernel
set_option maxHeartbeats 4000000 in
set_option maxRecDepth 100000 in
theorem kX5_lowest {l : Launch} {D : va_G} {cy : Nat → ClassId} {ad : Nat → Nat} {E : ke_T} (hEE : km_E E) {x1 : Int64} {x3 : Int32} {S : RSt} {r : Int64} {S' : RSt} (h : fX5_lowest x1 x3 S = some (r, S')) : km_l l D (mw_t cy) (mw_w cy ad) E yX5_lowest wsX5_lowest rmX5_lowest [.ref (ad 0), .long x1, .int x3] S r S' := by
  refine km_l_in (cc := cX5_lowest) (nL := 4) hEE (by decide) rfl (Nat.le_of_ble_eq_true rfl) ?_
  intro p e s m below meth c A H ls C hP hD hS hl
  have C : km_C p s m _ meth c cX5_lowest 4 RX5 wsX5_lowest (some .long) D (mw_t cy) E A := C
  obtain ⟨⟨hx, hb, hml, hown, hts⟩, hr, hlk, hK, hA, hE, hEE⟩ := id C
  have hl : lv_has ls 4 [(0, .ref (ad 0)), (1, .long x1), (3, .int x3)] := hl
  unfold fX5_lowest at h
  refine lv_iload_n hx hb dX5_lowest_0 rfl (lv_at hl 2 rfl) ?_
  obtain ⟨tJ_1, hT_7, h⟩ := ob_js h
  have kJ_1 : ∀ (sJ_1_0 : Int64) (S_2 : RSt) (_ : tJ_1 sJ_1_0 S_2 = some (r, S')) (H : Heap) (locs : List Loc) (ls : Array Slot), va_P D vwCl ((mw_w cy ad) S_2) H → va_D A ((mw_w cy ad) S_2) → va_S A s.heap H locs → lv_has ls 4 [(0, .ref (ad 0)), (1, .long x1)] → W p l e rmX5_lowest s m ([.ref (ad 0), .long x1, .int x3] : List Value).toArray below meth c H locs 0 0 (km_Ql below D (mw_t cy) (mw_w cy ad) A ([.ref (ad 0), .long x1, .int x3] : List Value).toArray s r S') (F0 m 12 ls [.long sJ_1_0]) := by
    intro sJ_1_0 S_2 h H locs ls hP hD hS hl
    rw [← hT_7] at h
    refine lv_lload_n hx hb dX5_lowest_12 rfl (lv_at hl 1 rfl) ?_
    refine lv_aload_n hx hb dX5_lowest_13 rfl (lv_at hl 0 rfl) ?_
    refine va_get (D := D) (ci := 5) (v := .long (st_j S_2 1)) (C := RX5) (T := TX5) (N := 31) hx hb hts ni_X5_lowest_X5 hown hK hP 0 mw_M rfl 30 (by decide) (hts _ nf_X5_lowest_f203) (fun _ h9 => h9) rfl dX5_lowest_14 ?_
    obtain ⟨r_4, S_5, hc_3, h⟩ := ob_2s h
    refine km_cSl (As := [.long x1, .long (st_j S_2 1)]) (rest := [.long sJ_1_0]) C (kX5_common hEE hc_3) (va_cwS 2 hts gX5_lowest_X5_common rfl rfl rfl (by decide +kernel) ⟨(Nat.le_of_ble_eq_true rfl), (Nat.le_of_ble_eq_true rfl)⟩) rfl hP hD hS hl.1 rfl (Nat.le_of_ble_eq_true rfl) dX5_lowest_17 (fun H locs hP hD hS => ?_)
    obtain ⟨hv_6, h⟩ := ob_nz_s h
    refine lv_ldiv hx hb dX5_lowest_20 hv_6 ?_
    obtain ⟨rfl, rfl⟩ := ob_w h
    exact km_lret C hP hD hS dX5_lowest_21
  refine lv_if_eq (tgt := 11) hx hb dX5_lowest_1 (by decide) (fun c_8 => ?_) (fun c_8 => ?_)
  · have h := ob_t c_8 h
    refine lv_lload_n hx hb dX5_lowest_11 rfl (lv_at hl 1 rfl) ?_
    exact kJ_1 _ _ h _ _ _ hP hD hS (lv_sub hl [0, 1] rfl)
  · have h := ob_f c_8 h
    refine lv_aload_n hx hb dX5_lowest_4 rfl (lv_at hl 0 rfl) ?_
    refine va_get (D := D) (ci := 5) (v := .long (st_j S 1)) (C := RX5) (T := TX5) (N := 31) hx hb hts ni_X5_lowest_X5 hown hK hP 0 mw_M rfl 30 (by decide) (hts _ nf_X5_lowest_f203) (fun _ h9 => h9) rfl dX5_lowest_5 ?_
    refine lv_goto (tgt := 12) hx hb dX5_lowest_8 (by decide) ?_
    exact kJ_1 _ _ h _ _ _ hP hD hS (lv_sub hl [0, 1] rfl)
def fX5_offOf (x1 : Int32) (S : RSt) : Option (Int64 × RSt) := (ob_in x1 48 (ob_in x1 48 (ob_in (st_a S 6 x1.toNatClampNeg) 8 (ob_in x1 48 (ob_in (st_a S 5 x1.toNatClampNeg) 8 (some (((((st_a S 7 x1.toNatClampNeg).toInt64) * (st_j S 1)) - (st_g S 2 (st_a S 6 x1.toNatClampNeg).toNatClampNeg)) + (st_g S 2 (st_a S 5 x1.toNatClampNeg).toNatClampNeg), S)))))))
abbrev rmX5_offOf : Room := { frames := 0, cells := 0, slots := 0, locals := 0 }
theorem nf_X5_offOf_f88 : Cond.fieldLink RX5 88 "RepeatIndexModel" "pRise" "[I" ∈ wsX5_offOf := by decide +kernel
theorem ni_X5_offOf_X5 : ∀ w ∈ u_ws RX5 TX5 31, w ∈ wsX5_offOf := by decide +kernel
theorem nf_X5_offOf_f203 : Cond.fieldLink RX5 203 "RepeatIndexModel" "lower" "J" ∈ wsX5_offOf := by decide +kernel
theorem nf_X5_offOf_f107 : Cond.fieldLink RX5 107 "RepeatIndexModel" "upper" "[J" ∈ wsX5_offOf := by decide +kernel
theorem nf_X5_offOf_f85 : Cond.fieldLink RX5 85 "RepeatIndexModel" "pTo" "[I" ∈ wsX5_offOf := by decide +kernel
theorem nf_X5_offOf_f82 : Cond.fieldLink RX5 82 "RepeatIndexModel" "pFrom" "[I" ∈ wsX5_offOf := by decide +kernel
set_option maxHeartbeats 4000000 in
set_option maxRecDepth 100000 in
theorem kX5_offOf {l : Launch} {D : va_G} {cy : Nat → ClassId} {ad : Nat → Nat} {E : ke_T} (hEE : km_E E) {x1 : Int32} {S : RSt} {r : Int64} {S' : RSt} (h : fX5_offOf x1 S = some (r, S')) : km_l l D (mw_t cy) (mw_w cy ad) E yX5_offOf wsX5_offOf rmX5_offOf [.ref (ad 0), .int x1] S r S' := by
  refine km_l_in (cc := cX5_offOf) (nL := 2) hEE (by decide) rfl (Nat.le_of_ble_eq_true rfl) ?_
  intro p e s m below meth c A H ls C hP hD hS hl
  have C : km_C p s m _ meth c cX5_offOf 2 RX5 wsX5_offOf (some .long) D (mw_t cy) E A := C
  obtain ⟨⟨hx, hb, hml, hown, hts⟩, hr, hlk, hK, hA, hE, hEE⟩ := id C
  have hl : lv_has ls 2 [(0, .ref (ad 0)), (1, .int x1)] := hl
  unfold fX5_offOf at h
  refine lv_aload_n hx hb dX5_offOf_0 rfl (lv_at hl 0 rfl) ?_
  refine va_get (D := D) (ci := 5) (v := .ref (ad 8)) (C := RX5) (T := TX5) (N := 31) hx hb hts ni_X5_offOf_X5 hown hK hP 0 mw_M rfl 21 (by decide) (hts _ nf_X5_offOf_f88) (fun _ h9 => h9) rfl dX5_offOf_1 ?_
  refine lv_iload_n hx hb dX5_offOf_4 rfl (lv_at hl 1 rfl) ?_
  obtain ⟨hv_1, h⟩ := ob_in_s h
  refine va_iald hx hb hK hP 8 0 mw_pRise rfl hv_1 dX5_offOf_5 ?_
  refine lv_i2l hx hb dX5_offOf_6 rfl ?_
  refine lv_aload_n hx hb dX5_offOf_7 rfl (lv_at hl 0 rfl) ?_
  refine va_get (D := D) (ci := 5) (v := .long (st_j S 1)) (C := RX5) (T := TX5) (N := 31) hx hb hts ni_X5_offOf_X5 hown hK hP 0 mw_M rfl 30 (by decide) (hts _ nf_X5_offOf_f203) (fun _ h9 => h9) rfl dX5_offOf_8 ?_
  refine lv_lmul hx hb dX5_offOf_11 ?_
  refine lv_aload_n hx hb dX5_offOf_12 rfl (lv_at hl 0 rfl) ?_
  refine va_get (D := D) (ci := 5) (v := .ref (ad 14)) (C := RX5) (T := TX5) (N := 31) hx hb hts ni_X5_offOf_X5 hown hK hP 0 mw_M rfl 28 (by decide) (hts _ nf_X5_offOf_f107) (fun _ h9 => h9) rfl dX5_offOf_13 ?_
  refine lv_aload_n hx hb dX5_offOf_16 rfl (lv_at hl 0 rfl) ?_
  refine va_get (D := D) (ci := 5) (v := .ref (ad 7)) (C := RX5) (T := TX5) (N := 31) hx hb hts ni_X5_offOf_X5 hown hK hP 0 mw_M rfl 20 (by decide) (hts _ nf_X5_offOf_f85) (fun _ h9 => h9) rfl dX5_offOf_17 ?_
  refine lv_iload_n hx hb dX5_offOf_20 rfl (lv_at hl 1 rfl) ?_
  obtain ⟨hv_2, h⟩ := ob_in_s h
  refine va_iald hx hb hK hP 7 0 mw_pTo rfl hv_2 dX5_offOf_21 ?_
  obtain ⟨hv_3, h⟩ := ob_in_s h
  refine va_lald hx hb hK hP 14 1 mw_upper rfl hv_3 dX5_offOf_22 ?_
  refine lv_lsub hx hb dX5_offOf_23 ?_
  refine lv_aload_n hx hb dX5_offOf_24 rfl (lv_at hl 0 rfl) ?_
  refine va_get (D := D) (ci := 5) (v := .ref (ad 14)) (C := RX5) (T := TX5) (N := 31) hx hb hts ni_X5_offOf_X5 hown hK hP 0 mw_M rfl 28 (by decide) (hts _ nf_X5_offOf_f107) (fun _ h9 => h9) rfl dX5_offOf_25 ?_
  refine lv_aload_n hx hb dX5_offOf_28 rfl (lv_at hl 0 rfl) ?_
  refine va_get (D := D) (ci := 5) (v := .ref (ad 6)) (C := RX5) (T := TX5) (N := 31) hx hb hts ni_X5_offOf_X5 hown hK hP 0 mw_M rfl 19 (by decide) (hts _ nf_X5_offOf_f82) (fun _ h9 => h9) rfl dX5_offOf_29 ?_
  refine lv_iload_n hx hb dX5_offOf_32 rfl (lv_at hl 1 rfl) ?_
  obtain ⟨hv_4, h⟩ := ob_in_s h
  refine va_iald hx hb hK hP 6 0 mw_pFrom rfl hv_4 dX5_offOf_33 ?_
  obtain ⟨hv_5, h⟩ := ob_in_s h
  refine va_lald hx hb hK hP 14 1 mw_upper rfl hv_5 dX5_offOf_34 ?_
  refine lv_ladd hx hb dX5_offOf_35 ?_
  obtain ⟨rfl, rfl⟩ := ob_w h
  exact km_lret C hP hD hS dX5_offOf_36
def fX5_now_L18 : Nat → Int32 → Int32 → Int32 → RSt → Option (Int32 × RSt)
  | 0, _, _, _, _ => none
  | n + 1, x1, x2, x3, S => (ob_in (0 : Int32) 58 (if (st_a S 1 (0 : Int32).toNatClampNeg) ≤ x3 then (some (x2, S)) else (ob_in x3 8 (if (st_a S 9 x3.toNatClampNeg) = x3 then (fX5_now_L18 n x1 (x2 + (1 : Int32)) (x3 + (1 : Int32)) S) else (fX5_now_L18 n x1 x2 (x3 + (1 : Int32)) S)))))
def fX5_now (x1 : Int32) (S : RSt) : Option (Int32 × RSt) := (ob_1 (fX5_laysPairs (-1 : Int32) (st_si S 0 (0 : Int32))) fun S_3 => (ob_1 (fX5_laysParts S_3) fun S_6 => (ob_2 (fX5_now_L18 1000 x1 (0 : Int32) (0 : Int32) S_6) fun o_13 S_12 => (if x1 = (0 : Int32) then (ob_in x1 58 (some (st_a S_12 1 x1.toNatClampNeg, S_12))) else (if x1 = (1 : Int32) then (ob_in x1 58 (some (st_a S_12 1 x1.toNatClampNeg, S_12))) else (if x1 = (2 : Int32) then (ob_2 (fX5_sales S_12) fun r_20 S_21 => (some (r_20, S_21))) else (if x1 = (3 : Int32) then (some (st_i S_12 13, S_12)) else (if x1 = (4 : Int32) then (some (o_13, S_12)) else (if x1 = (5 : Int32) then (some (st_i S_12 9, S_12)) else (if x1 = (6 : Int32) then (some (st_i S_12 1, S_12)) else (some ((-1 : Int32), S_12))))))))))))
abbrev rmX5_now : Room := { frames := 4, cells := 0, slots := 0, locals := 88 }
theorem nf_X5_now_f1 : Cond.fieldLink RX5 1 "RepeatIndexModel" "thrown" "I" ∈ wsX5_now := by decide +kernel
theorem ni_X5_now_X5 : ∀ w ∈ u_ws RX5 TX5 31, w ∈ wsX5_now := by decide +kernel
theorem nf_X5_now_f70 : Cond.fieldLink RX5 70 "RepeatIndexModel" "now" "[I" ∈ wsX5_now := by decide +kernel
theorem nf_X5_now_f94 : Cond.fieldLink RX5 94 "RepeatIndexModel" "part" "[I" ∈ wsX5_now := by decide +kernel
theorem nf_X5_now_f175 : Cond.fieldLink RX5 175 "RepeatIndexModel" "pairs" "I" ∈ wsX5_now := by decide +kernel
theorem nf_X5_now_f162 : Cond.fieldLink RX5 162 "RepeatIndexModel" "snapMany" "I" ∈ wsX5_now := by decide +kernel
theorem nf_X5_now_f11 : Cond.fieldLink RX5 11 "RepeatIndexModel" "taped" "I" ∈ wsX5_now := by decide +kernel
set_option maxHeartbeats 4000000 in
set_option maxRecDepth 100000 in
theorem kX5_now_L18 {l : Launch} {D : va_G} {cy : Nat → ClassId} {ad : Nat → Nat} {E : ke_T} {p : Program} {e : Env} {s : State} {m : MethodId} {args : Array Value} {below : List Frame} {meth : Method} {c : Code} {A : Nat → Prop} {Q : State → Prop} (C : km_C p s m args meth c cX5_now 4 RX5 wsX5_now (some .int) D (mw_t cy) E A) : ∀ (n : Nat) (x1 : Int32) (x2 : Int32) (x3 : Int32) (S : RSt) (o2 : Int32) (S' : RSt) (h : fX5_now_L18 n x1 x2 x3 S = some (o2, S')) {H : Heap} {locs : List Loc} {ls : Array Slot} (hP : va_P D vwCl ((mw_w cy ad) S) H) (hD : va_D A ((mw_w cy ad) S)) (hS : va_S A s.heap H locs) (hl : lv_has ls 4 [(0, .ref (ad 0)), (1, .int x1), (2, .int x2), (3, .int x3)]) (kx0 : ∀ (H : Heap) (locs : List Loc) (ls : Array Slot), va_P D vwCl ((mw_w cy ad) S') H → va_D A ((mw_w cy ad) S') → va_S A s.heap H locs → lv_has ls 4 [(0, .ref (ad 0)), (1, .int x1), (2, .int o2)] → W p l e rmX5_now s m args below meth c H locs 0 0 Q (F0 m 47 ls [])), W p l e rmX5_now s m args below meth c H locs 0 0 Q (F0 m 18 ls []) := by
  obtain ⟨⟨hx, hb, hml, hown, hts⟩, hr, hlk, hK, hA, hE, hEE⟩ := id C
  intro n
  induction n with
  | zero =>
    intro x1 x2 x3 S o2 S' h
    rw [fX5_now_L18] at h
    cases h
  | succ n ih =>
    intro x1 x2 x3 S o2 S' h H locs ls hP hD hS hl kx0
    rw [fX5_now_L18] at h
    refine lv_iload_n hx hb dX5_now_18 rfl (lv_at hl 3 rfl) ?_
    refine lv_aload_n hx hb dX5_now_19 rfl (lv_at hl 0 rfl) ?_
    refine va_get (D := D) (ci := 5) (v := .ref (ad 2)) (C := RX5) (T := TX5) (N := 31) hx hb hts ni_X5_now_X5 hown hK hP 0 mw_M rfl 11 (by decide) (hts _ nf_X5_now_f70) (fun _ h9 => h9) rfl dX5_now_20 ?_
    refine lv_iconst (v := 0) hx hb dX5_now_23 (by decide) ?_
    obtain ⟨hv_7, h⟩ := ob_in_s h
    refine va_iald hx hb hK hP 2 0 mw_now rfl hv_7 dX5_now_24 ?_
    refine lv_icmp_ge (tgt := 47) hx hb dX5_now_25 (by decide) (fun c_8 => ?_) (fun c_8 => ?_)
    · have h := ob_t c_8 h
      cases h
      exact kx0 _ _ _ hP hD hS (lv_sub hl [0, 1, 2] rfl)
    · have h := ob_f c_8 h
      refine lv_aload_n hx hb dX5_now_28 rfl (lv_at hl 0 rfl) ?_
      refine va_get (D := D) (ci := 5) (v := .ref (ad 10)) (C := RX5) (T := TX5) (N := 31) hx hb hts ni_X5_now_X5 hown hK hP 0 mw_M rfl 24 (by decide) (hts _ nf_X5_now_f94) (fun _ h9 => h9) rfl dX5_now_29 ?_
      refine lv_iload_n hx hb dX5_now_32 rfl (lv_at hl 3 rfl) ?_
      obtain ⟨hv_9, h⟩ := ob_in_s h
      refine va_iald hx hb hK hP 10 0 mw_part rfl hv_9 dX5_now_33 ?_
      refine lv_iload_n hx hb dX5_now_34 rfl (lv_at hl 3 rfl) ?_
      refine lv_icmp_ne (tgt := 41) hx hb dX5_now_35 (by decide) (fun c_10 => ?_) (fun c_10 => ?_)
      · have h := ob_f c_10 h
        refine lv_iinc (v := x3 + (1 : Int32)) (lv' := [(3, .int (x3 + (1 : Int32))), (0, .ref (ad 0)), (1, .int x1), (2, .int x2)]) hx hb dX5_now_41 hl (k := 3) rfl (congrArg (fun z => x3 + z) (by decide)) (by decide) rfl (fun ls hl => ?_)
        refine lv_goto (tgt := 18) hx hb dX5_now_44 (by decide) ?_
        exact ih _ _ _ _ _ _ h hP hD hS (lv_sub hl [1, 2, 3, 0] rfl) kx0
      · have h := ob_t c_10 h
        refine lv_iinc (v := x2 + (1 : Int32)) (lv' := [(2, .int (x2 + (1 : Int32))), (0, .ref (ad 0)), (1, .int x1), (3, .int x3)]) hx hb dX5_now_38 hl (k := 2) rfl (congrArg (fun z => x2 + z) (by decide)) (by decide) rfl (fun ls hl => ?_)
        refine lv_iinc (v := x3 + (1 : Int32)) (lv' := [(3, .int (x3 + (1 : Int32))), (2, .int (x2 + (1 : Int32))), (0, .ref (ad 0)), (1, .int x1)]) hx hb dX5_now_41 hl (k := 3) rfl (congrArg (fun z => x3 + z) (by decide)) (by decide) rfl (fun ls hl => ?_)
        refine lv_goto (tgt := 18) hx hb dX5_now_44 (by decide) ?_
        exact ih _ _ _ _ _ _ h hP hD hS (lv_sub hl [2, 3, 1, 0] rfl) kx0
set_option maxHeartbeats 4000000 in
set_option maxRecDepth 100000 in
theorem kX5_now {l : Launch} {D : va_G} {cy : Nat → ClassId} {ad : Nat → Nat} {E : ke_T} (hEE : km_E E) {x1 : Int32} {S : RSt} {r : Int32} {S' : RSt} (h : fX5_now x1 S = some (r, S')) : km_i l D (mw_t cy) (mw_w cy ad) E yX5_now wsX5_now rmX5_now [.ref (ad 0), .int x1] S r S' := by
  refine km_i_in (cc := cX5_now) (nL := 4) hEE (by decide) rfl (Nat.le_of_ble_eq_true rfl) ?_
  intro p e s m below meth c A H ls C hP hD hS hl
  have C : km_C p s m _ meth c cX5_now 4 RX5 wsX5_now (some .int) D (mw_t cy) E A := C
  obtain ⟨⟨hx, hb, hml, hown, hts⟩, hr, hlk, hK, hA, hE, hEE⟩ := id C
  have hl : lv_has ls 4 [(0, .ref (ad 0)), (1, .int x1)] := hl
  unfold fX5_now at h
  refine lv_aload_n hx hb dX5_now_0 rfl (lv_at hl 0 rfl) ?_
  refine lv_iconst (v := 0) hx hb dX5_now_1 (by decide) ?_
  refine va_put (D := D) (ci := 5) (v := .int (0 : Int32)) (ty := .int) (C := RX5) (T := TX5) (N := 31) hx hb hts ni_X5_now_X5 tyX5 tyX5_ok nmX5 hown hK hP hD hS 0 mw_M rfl 0 (by decide) (hts _ nf_X5_now_f1) (fun _ h9 => h9) rfl (by decide +kernel) rfl rfl (Nat.le_of_ble_eq_true rfl) dX5_now_2 (fun H locs hP hD hS => ?_)
  have hP := st_ps mw_s_thrown hP
  have hD := st_ds mw_s_thrown hD
  refine lv_aload_n hx hb dX5_now_5 rfl (lv_at hl 0 rfl) ?_
  refine lv_iconst (v := -1) hx hb dX5_now_6 (by decide) ?_
  obtain ⟨S_3, hc_1, h⟩ := ob_1s h
  refine km_cVv (As := [.int (-1 : Int32)]) (rest := []) C (kX5_laysPairs hEE hc_1) (cwV 1 hts gX5_now_X5_laysPairs rfl rfl rfl (by decide +kernel) ⟨(Nat.le_of_ble_eq_true rfl), (Nat.le_of_ble_eq_true rfl)⟩) mw_M rfl rfl rfl hP hD hS hl.1 rfl (Nat.le_of_ble_eq_true rfl) dX5_now_7 (fun H locs hP hD hS => ?_)
  refine lv_aload_n hx hb dX5_now_10 rfl (lv_at hl 0 rfl) ?_
  obtain ⟨S_6, hc_4, h⟩ := ob_1s h
  refine km_cVv (As := []) (rest := []) C (kX5_laysParts hEE hc_4) (cwV 0 hts gX5_now_X5_laysParts rfl rfl rfl (by decide +kernel) ⟨(Nat.le_of_ble_eq_true rfl), (Nat.le_of_ble_eq_true rfl)⟩) mw_M rfl rfl rfl hP hD hS hl.1 rfl (Nat.le_of_ble_eq_true rfl) dX5_now_11 (fun H locs hP hD hS => ?_)
  refine lv_iconst (v := 0) hx hb dX5_now_14 (by decide) ?_
  refine lv_istore_n (lv' := [(2, .int (0 : Int32)), (0, .ref (ad 0)), (1, .int x1)]) hx hb dX5_now_15 rfl hl (by decide) rfl (fun ls hl => ?_)
  refine lv_iconst (v := 0) hx hb dX5_now_16 (by decide) ?_
  refine lv_istore_n (lv' := [(3, .int (0 : Int32)), (2, .int (0 : Int32)), (0, .ref (ad 0)), (1, .int x1)]) hx hb dX5_now_17 rfl hl (by decide) rfl (fun ls hl => ?_)
  obtain ⟨o_13, S_12, hq_11, h⟩ := ob_2s h
  refine kX5_now_L18  C _ _ _ _ _ _ _ hq_11 hP hD hS (lv_sub hl [2, 3, 1, 0] rfl) (fun H locs ls hP hD hS hl => ?_)
  refine lv_iload_n hx hb dX5_now_47 rfl (lv_at hl 1 rfl) ?_
  by_cases c_14 : x1 = (0 : Int32)
  · have h := ob_t c_14 h
    refine lv_tableIn (tgt := 92) (off := 44) hx hb dX5_now_48 (by rw [c_14]; decide) (by rw [c_14]; decide) (by rw [c_14]; decide) (by decide) ?_
    refine lv_aload_n hx hb dX5_now_92 rfl (lv_at hl 0 rfl) ?_
    refine va_get (D := D) (ci := 5) (v := .ref (ad 2)) (C := RX5) (T := TX5) (N := 31) hx hb hts ni_X5_now_X5 hown hK hP 0 mw_M rfl 11 (by decide) (hts _ nf_X5_now_f70) (fun _ h9 => h9) rfl dX5_now_93 ?_
    refine lv_iload_n hx hb dX5_now_96 rfl (lv_at hl 1 rfl) ?_
    obtain ⟨hv_15, h⟩ := ob_in_s h
    refine va_iald hx hb hK hP 2 0 mw_now rfl hv_15 dX5_now_97 ?_
    obtain ⟨rfl, rfl⟩ := ob_w h
    exact km_iret C hP hD hS dX5_now_98
  have h := ob_f c_14 h
  by_cases c_16 : x1 = (1 : Int32)
  · have h := ob_t c_16 h
    refine lv_tableIn (tgt := 92) (off := 44) hx hb dX5_now_48 (by rw [c_16]; decide) (by rw [c_16]; decide) (by rw [c_16]; decide) (by decide) ?_
    refine lv_aload_n hx hb dX5_now_92 rfl (lv_at hl 0 rfl) ?_
    refine va_get (D := D) (ci := 5) (v := .ref (ad 2)) (C := RX5) (T := TX5) (N := 31) hx hb hts ni_X5_now_X5 hown hK hP 0 mw_M rfl 11 (by decide) (hts _ nf_X5_now_f70) (fun _ h9 => h9) rfl dX5_now_93 ?_
    refine lv_iload_n hx hb dX5_now_96 rfl (lv_at hl 1 rfl) ?_
    obtain ⟨hv_17, h⟩ := ob_in_s h
    refine va_iald hx hb hK hP 2 0 mw_now rfl hv_17 dX5_now_97 ?_
    obtain ⟨rfl, rfl⟩ := ob_w h
    exact km_iret C hP hD hS dX5_now_98
  have h := ob_f c_16 h
  by_cases c_18 : x1 = (2 : Int32)
  · have h := ob_t c_18 h
    refine lv_tableIn (tgt := 99) (off := 51) hx hb dX5_now_48 (by rw [c_18]; decide) (by rw [c_18]; decide) (by rw [c_18]; decide) (by decide) ?_
    refine lv_aload_n hx hb dX5_now_99 rfl (lv_at hl 0 rfl) ?_
    obtain ⟨r_20, S_21, hc_19, h⟩ := ob_2s h
    refine km_cVi (As := []) (rest := []) C (kX5_sales hEE hc_19) (cwV 0 hts gX5_now_X5_sales rfl rfl rfl (by decide +kernel) ⟨(Nat.le_of_ble_eq_true rfl), (Nat.le_of_ble_eq_true rfl)⟩) mw_M rfl rfl rfl hP hD hS hl.1 rfl (Nat.le_of_ble_eq_true rfl) dX5_now_100 (fun H locs hP hD hS => ?_)
    obtain ⟨rfl, rfl⟩ := ob_w h
    exact km_iret C hP hD hS dX5_now_103
  have h := ob_f c_18 h
  by_cases c_22 : x1 = (3 : Int32)
  · have h := ob_t c_22 h
    refine lv_tableIn (tgt := 104) (off := 56) hx hb dX5_now_48 (by rw [c_22]; decide) (by rw [c_22]; decide) (by rw [c_22]; decide) (by decide) ?_
    refine lv_aload_n hx hb dX5_now_104 rfl (lv_at hl 0 rfl) ?_
    refine va_get (D := D) (ci := 5) (v := .int (st_i S_12 13)) (C := RX5) (T := TX5) (N := 31) hx hb hts ni_X5_now_X5 hown hK hP 0 mw_M rfl 23 (by decide) (hts _ nf_X5_now_f175) (fun _ h9 => h9) rfl dX5_now_105 ?_
    obtain ⟨rfl, rfl⟩ := ob_w h
    exact km_iret C hP hD hS dX5_now_108
  have h := ob_f c_22 h
  by_cases c_23 : x1 = (4 : Int32)
  · have h := ob_t c_23 h
    refine lv_tableIn (tgt := 109) (off := 61) hx hb dX5_now_48 (by rw [c_23]; decide) (by rw [c_23]; decide) (by rw [c_23]; decide) (by decide) ?_
    refine lv_iload_n hx hb dX5_now_109 rfl (lv_at hl 2 rfl) ?_
    obtain ⟨rfl, rfl⟩ := ob_w h
    exact km_iret C hP hD hS dX5_now_110
  have h := ob_f c_23 h
  by_cases c_24 : x1 = (5 : Int32)
  · have h := ob_t c_24 h
    refine lv_tableIn (tgt := 111) (off := 63) hx hb dX5_now_48 (by rw [c_24]; decide) (by rw [c_24]; decide) (by rw [c_24]; decide) (by decide) ?_
    refine lv_aload_n hx hb dX5_now_111 rfl (lv_at hl 0 rfl) ?_
    refine va_get (D := D) (ci := 5) (v := .int (st_i S_12 9)) (C := RX5) (T := TX5) (N := 31) hx hb hts ni_X5_now_X5 hown hK hP 0 mw_M rfl 14 (by decide) (hts _ nf_X5_now_f162) (fun _ h9 => h9) rfl dX5_now_112 ?_
    obtain ⟨rfl, rfl⟩ := ob_w h
    exact km_iret C hP hD hS dX5_now_115
  have h := ob_f c_24 h
  by_cases c_25 : x1 = (6 : Int32)
  · have h := ob_t c_25 h
    refine lv_tableIn (tgt := 116) (off := 68) hx hb dX5_now_48 (by rw [c_25]; decide) (by rw [c_25]; decide) (by rw [c_25]; decide) (by decide) ?_
    refine lv_aload_n hx hb dX5_now_116 rfl (lv_at hl 0 rfl) ?_
    refine va_get (D := D) (ci := 5) (v := .int (st_i S_12 1)) (C := RX5) (T := TX5) (N := 31) hx hb hts ni_X5_now_X5 hown hK hP 0 mw_M rfl 2 (by decide) (hts _ nf_X5_now_f11) (fun _ h9 => h9) rfl dX5_now_117 ?_
    obtain ⟨rfl, rfl⟩ := ob_w h
    exact km_iret C hP hD hS dX5_now_120
  have h := ob_f c_25 h
  refine lv_tableOut (tgt := 121) hx hb dX5_now_48 (by have z := sw_no (x1); have z0 := sw_ne c_14 (z := 0) (by decide); have z1 := sw_ne c_16 (z := 1) (by decide); have z2 := sw_ne c_18 (z := 2) (by decide); have z3 := sw_ne c_22 (z := 3) (by decide); have z4 := sw_ne c_23 (z := 4) (by decide); have z5 := sw_ne c_24 (z := 5) (by decide); have z6 := sw_ne c_25 (z := 6) (by decide); omega) (by decide) ?_
  refine lv_iconst (v := -1) hx hb dX5_now_121 (by decide) ?_
  obtain ⟨rfl, rfl⟩ := ob_w h
  exact km_iret C hP hD hS dX5_now_122
def fX5_level (x1 : Int32) (x2 : Int32) (S : RSt) : Option (Int32 × RSt) := (ob_2 (fX5_isHome x1 (st_si S 0 (0 : Int32))) fun r_2 S_3 => (if r_2 = 0 then (some ((-1 : Int32), S_3)) else (ob_2 (fX5_isMonth x2 S_3) fun r_7 S_8 => (if r_7 = 0 then (some ((-1 : Int32), S_8)) else (ob_2 (fX5_isSold x1 x2 S_8) fun r_12 S_13 => (if r_12 = 0 then (some ((-1 : Int32), S_13)) else (ob_2 (fX5_levelOf x1 x2 S_13) fun r_17 S_18 => (some (r_17, S_18)))))))))
abbrev rmX5_level : Room := { frames := 2, cells := 0, slots := 0, locals := 43 }
theorem nf_X5_level_f1 : Cond.fieldLink RX5 1 "RepeatIndexModel" "thrown" "I" ∈ wsX5_level := by decide +kernel
theorem ni_X5_level_X5 : ∀ w ∈ u_ws RX5 TX5 31, w ∈ wsX5_level := by decide +kernel
set_option maxHeartbeats 4000000 in
set_option maxRecDepth 100000 in
theorem kX5_level {l : Launch} {D : va_G} {cy : Nat → ClassId} {ad : Nat → Nat} {E : ke_T} (hEE : km_E E) {x1 : Int32} {x2 : Int32} {S : RSt} {r : Int32} {S' : RSt} (h : fX5_level x1 x2 S = some (r, S')) : km_i l D (mw_t cy) (mw_w cy ad) E yX5_level wsX5_level rmX5_level [.ref (ad 0), .int x1, .int x2] S r S' := by
  refine km_i_in (cc := cX5_level) (nL := 3) hEE (by decide) rfl (Nat.le_of_ble_eq_true rfl) ?_
  intro p e s m below meth c A H ls C hP hD hS hl
  have C : km_C p s m _ meth c cX5_level 3 RX5 wsX5_level (some .int) D (mw_t cy) E A := C
  obtain ⟨⟨hx, hb, hml, hown, hts⟩, hr, hlk, hK, hA, hE, hEE⟩ := id C
  have hl : lv_has ls 3 [(0, .ref (ad 0)), (1, .int x1), (2, .int x2)] := hl
  unfold fX5_level at h
  refine lv_aload_n hx hb dX5_level_0 rfl (lv_at hl 0 rfl) ?_
  refine lv_iconst (v := 0) hx hb dX5_level_1 (by decide) ?_
  refine va_put (D := D) (ci := 5) (v := .int (0 : Int32)) (ty := .int) (C := RX5) (T := TX5) (N := 31) hx hb hts ni_X5_level_X5 tyX5 tyX5_ok nmX5 hown hK hP hD hS 0 mw_M rfl 0 (by decide) (hts _ nf_X5_level_f1) (fun _ h9 => h9) rfl (by decide +kernel) rfl rfl (Nat.le_of_ble_eq_true rfl) dX5_level_2 (fun H locs hP hD hS => ?_)
  have hP := st_ps mw_s_thrown hP
  have hD := st_ds mw_s_thrown hD
  refine lv_aload_n hx hb dX5_level_5 rfl (lv_at hl 0 rfl) ?_
  refine lv_iload_n hx hb dX5_level_6 rfl (lv_at hl 1 rfl) ?_
  obtain ⟨r_2, S_3, hc_1, h⟩ := ob_2s h
  refine km_cVz (As := [.int x1]) (rest := []) C (kX5_isHome hEE hc_1) (cwV 1 hts gX5_level_X5_isHome rfl rfl rfl (by decide +kernel) ⟨(Nat.le_of_ble_eq_true rfl), (Nat.le_of_ble_eq_true rfl)⟩) mw_M rfl rfl rfl hP hD hS hl.1 rfl (Nat.le_of_ble_eq_true rfl) dX5_level_7 (fun H locs hP hD hS hz_4 => ?_)
  refine lv_if_eq (tgt := 39) hx hb dX5_level_10 (by decide) (fun c_5 => ?_) (fun c_5 => ?_)
  · have h := ob_t c_5 h
    refine lv_iconst (v := -1) hx hb dX5_level_39 (by decide) ?_
    obtain ⟨rfl, rfl⟩ := ob_w h
    exact km_iret C hP hD hS dX5_level_40
  · have h := ob_f c_5 h
    refine lv_aload_n hx hb dX5_level_13 rfl (lv_at hl 0 rfl) ?_
    refine lv_iload_n hx hb dX5_level_14 rfl (lv_at hl 2 rfl) ?_
    obtain ⟨r_7, S_8, hc_6, h⟩ := ob_2s h
    refine km_cVz (As := [.int x2]) (rest := []) C (kX5_isMonth hEE hc_6) (cwV 1 hts gX5_level_X5_isMonth rfl rfl rfl (by decide +kernel) ⟨(Nat.le_of_ble_eq_true rfl), (Nat.le_of_ble_eq_true rfl)⟩) mw_M rfl rfl rfl hP hD hS hl.1 rfl (Nat.le_of_ble_eq_true rfl) dX5_level_15 (fun H locs hP hD hS hz_9 => ?_)
    refine lv_if_eq (tgt := 39) hx hb dX5_level_18 (by decide) (fun c_10 => ?_) (fun c_10 => ?_)
    · have h := ob_t c_10 h
      refine lv_iconst (v := -1) hx hb dX5_level_39 (by decide) ?_
      obtain ⟨rfl, rfl⟩ := ob_w h
      exact km_iret C hP hD hS dX5_level_40
    · have h := ob_f c_10 h
      refine lv_aload_n hx hb dX5_level_21 rfl (lv_at hl 0 rfl) ?_
      refine lv_iload_n hx hb dX5_level_22 rfl (lv_at hl 1 rfl) ?_
      refine lv_iload_n hx hb dX5_level_23 rfl (lv_at hl 2 rfl) ?_
      obtain ⟨r_12, S_13, hc_11, h⟩ := ob_2s h
      refine km_cVz (As := [.int x1, .int x2]) (rest := []) C (kX5_isSold hEE hc_11) (cwV 2 hts gX5_level_X5_isSold rfl rfl rfl (by decide +kernel) ⟨(Nat.le_of_ble_eq_true rfl), (Nat.le_of_ble_eq_true rfl)⟩) mw_M rfl rfl rfl hP hD hS hl.1 rfl (Nat.le_of_ble_eq_true rfl) dX5_level_24 (fun H locs hP hD hS hz_14 => ?_)
      refine lv_if_eq (tgt := 39) hx hb dX5_level_27 (by decide) (fun c_15 => ?_) (fun c_15 => ?_)
      · have h := ob_t c_15 h
        refine lv_iconst (v := -1) hx hb dX5_level_39 (by decide) ?_
        obtain ⟨rfl, rfl⟩ := ob_w h
        exact km_iret C hP hD hS dX5_level_40
      · have h := ob_f c_15 h
        refine lv_aload_n hx hb dX5_level_30 rfl (lv_at hl 0 rfl) ?_
        refine lv_iload_n hx hb dX5_level_31 rfl (lv_at hl 1 rfl) ?_
        refine lv_iload_n hx hb dX5_level_32 rfl (lv_at hl 2 rfl) ?_
        obtain ⟨r_17, S_18, hc_16, h⟩ := ob_2s h
        refine km_cVi (As := [.int x1, .int x2]) (rest := []) C (kX5_levelOf hEE hc_16) (cwV 2 hts gX5_level_X5_levelOf rfl rfl rfl (by decide +kernel) ⟨(Nat.le_of_ble_eq_true rfl), (Nat.le_of_ble_eq_true rfl)⟩) mw_M rfl rfl rfl hP hD hS hl.1 rfl (Nat.le_of_ble_eq_true rfl) dX5_level_33 (fun H locs hP hD hS => ?_)
        refine lv_goto (tgt := 40) hx hb dX5_level_36 (by decide) ?_
        obtain ⟨rfl, rfl⟩ := ob_w h
        exact km_iret C hP hD hS dX5_level_40
def fX5_pair (x1 : Int32) (x2 : Int32) (S : RSt) : Option (Int32 × RSt) := (ob_1 (fX5_laysPairs (-1 : Int32) (st_si S 0 (0 : Int32))) fun S_3 => (ob_2 (fX5_isIn x1 (0 : Int32) ((st_i S_3 13) - (1 : Int32)) S_3) fun r_5 S_6 => (if r_5 = 0 then (ob_2 (fX5_refuse S_6) fun r_23 S_24 => (some (r_23, S_24))) else (if x2 = (0 : Int32) then (ob_in x1 48 (some (st_a S_6 4 x1.toNatClampNeg, S_6))) else (if x2 = (1 : Int32) then (ob_in x1 48 (some (st_a S_6 5 x1.toNatClampNeg, S_6))) else (if x2 = (2 : Int32) then (ob_in x1 48 (some (st_a S_6 6 x1.toNatClampNeg, S_6))) else (if x2 = (3 : Int32) then (ob_in x1 48 (some (st_a S_6 7 x1.toNatClampNeg, S_6))) else (if x2 = (4 : Int32) then (ob_in x1 48 (some (st_a S_6 8 x1.toNatClampNeg, S_6))) else (ob_2 (fX5_refuse S_6) fun r_20 S_21 => (some (r_20, S_21)))))))))))
abbrev rmX5_pair : Room := { frames := 3, cells := 0, slots := 0, locals := 67 }
theorem nf_X5_pair_f1 : Cond.fieldLink RX5 1 "RepeatIndexModel" "thrown" "I" ∈ wsX5_pair := by decide +kernel
theorem ni_X5_pair_X5 : ∀ w ∈ u_ws RX5 TX5 31, w ∈ wsX5_pair := by decide +kernel
theorem nf_X5_pair_f175 : Cond.fieldLink RX5 175 "RepeatIndexModel" "pairs" "I" ∈ wsX5_pair := by decide +kernel
theorem nf_X5_pair_f79 : Cond.fieldLink RX5 79 "RepeatIndexModel" "pHome" "[I" ∈ wsX5_pair := by decide +kernel
theorem nf_X5_pair_f82 : Cond.fieldLink RX5 82 "RepeatIndexModel" "pFrom" "[I" ∈ wsX5_pair := by decide +kernel
theorem nf_X5_pair_f85 : Cond.fieldLink RX5 85 "RepeatIndexModel" "pTo" "[I" ∈ wsX5_pair := by decide +kernel
theorem nf_X5_pair_f88 : Cond.fieldLink RX5 88 "RepeatIndexModel" "pRise" "[I" ∈ wsX5_pair := by decide +kernel
theorem nf_X5_pair_f91 : Cond.fieldLink RX5 91 "RepeatIndexModel" "pWeight" "[I" ∈ wsX5_pair := by decide +kernel
set_option maxHeartbeats 4000000 in
set_option maxRecDepth 100000 in
theorem kX5_pair {l : Launch} {D : va_G} {cy : Nat → ClassId} {ad : Nat → Nat} {E : ke_T} (hEE : km_E E) {x1 : Int32} {x2 : Int32} {S : RSt} {r : Int32} {S' : RSt} (h : fX5_pair x1 x2 S = some (r, S')) : km_i l D (mw_t cy) (mw_w cy ad) E yX5_pair wsX5_pair rmX5_pair [.ref (ad 0), .int x1, .int x2] S r S' := by
  refine km_i_in (cc := cX5_pair) (nL := 3) hEE (by decide) rfl (Nat.le_of_ble_eq_true rfl) ?_
  intro p e s m below meth c A H ls C hP hD hS hl
  have C : km_C p s m _ meth c cX5_pair 3 RX5 wsX5_pair (some .int) D (mw_t cy) E A := C
  obtain ⟨⟨hx, hb, hml, hown, hts⟩, hr, hlk, hK, hA, hE, hEE⟩ := id C
  have hl : lv_has ls 3 [(0, .ref (ad 0)), (1, .int x1), (2, .int x2)] := hl
  unfold fX5_pair at h
  refine lv_aload_n hx hb dX5_pair_0 rfl (lv_at hl 0 rfl) ?_
  refine lv_iconst (v := 0) hx hb dX5_pair_1 (by decide) ?_
  refine va_put (D := D) (ci := 5) (v := .int (0 : Int32)) (ty := .int) (C := RX5) (T := TX5) (N := 31) hx hb hts ni_X5_pair_X5 tyX5 tyX5_ok nmX5 hown hK hP hD hS 0 mw_M rfl 0 (by decide) (hts _ nf_X5_pair_f1) (fun _ h9 => h9) rfl (by decide +kernel) rfl rfl (Nat.le_of_ble_eq_true rfl) dX5_pair_2 (fun H locs hP hD hS => ?_)
  have hP := st_ps mw_s_thrown hP
  have hD := st_ds mw_s_thrown hD
  refine lv_aload_n hx hb dX5_pair_5 rfl (lv_at hl 0 rfl) ?_
  refine lv_iconst (v := -1) hx hb dX5_pair_6 (by decide) ?_
  obtain ⟨S_3, hc_1, h⟩ := ob_1s h
  refine km_cVv (As := [.int (-1 : Int32)]) (rest := []) C (kX5_laysPairs hEE hc_1) (cwV 1 hts gX5_pair_X5_laysPairs rfl rfl rfl (by decide +kernel) ⟨(Nat.le_of_ble_eq_true rfl), (Nat.le_of_ble_eq_true rfl)⟩) mw_M rfl rfl rfl hP hD hS hl.1 rfl (Nat.le_of_ble_eq_true rfl) dX5_pair_7 (fun H locs hP hD hS => ?_)
  refine lv_iload_n hx hb dX5_pair_10 rfl (lv_at hl 1 rfl) ?_
  refine lv_iconst (v := 0) hx hb dX5_pair_11 (by decide) ?_
  refine lv_aload_n hx hb dX5_pair_12 rfl (lv_at hl 0 rfl) ?_
  refine va_get (D := D) (ci := 5) (v := .int (st_i S_3 13)) (C := RX5) (T := TX5) (N := 31) hx hb hts ni_X5_pair_X5 hown hK hP 0 mw_M rfl 23 (by decide) (hts _ nf_X5_pair_f175) (fun _ h9 => h9) rfl dX5_pair_13 ?_
  refine lv_iconst (v := 1) hx hb dX5_pair_16 (by decide) ?_
  refine lv_isub hx hb dX5_pair_17 ?_
  obtain ⟨r_5, S_6, hc_4, h⟩ := ob_2s h
  refine km_cSz (As := [.int x1, .int (0 : Int32), .int ((st_i S_3 13) - (1 : Int32))]) (rest := []) C (kX5_isIn hEE hc_4) (va_cwS 3 hts gX5_pair_X5_isIn rfl rfl rfl (by decide +kernel) ⟨(Nat.le_of_ble_eq_true rfl), (Nat.le_of_ble_eq_true rfl)⟩) rfl hP hD hS hl.1 rfl (Nat.le_of_ble_eq_true rfl) dX5_pair_18 (fun H locs hP hD hS hz_7 => ?_)
  refine lv_if_ne (tgt := 29) hx hb dX5_pair_21 (by decide) (fun c_8 => ?_) (fun c_8 => ?_)
  · have h := ob_f c_8 h
    refine lv_iload_n hx hb dX5_pair_29 rfl (lv_at hl 2 rfl) ?_
    by_cases c_9 : x2 = (0 : Int32)
    · have h := ob_t c_9 h
      refine lv_tableIn (tgt := 64) (off := 34) hx hb dX5_pair_30 (by rw [c_9]; decide) (by rw [c_9]; decide) (by rw [c_9]; decide) (by decide) ?_
      refine lv_aload_n hx hb dX5_pair_64 rfl (lv_at hl 0 rfl) ?_
      refine va_get (D := D) (ci := 5) (v := .ref (ad 5)) (C := RX5) (T := TX5) (N := 31) hx hb hts ni_X5_pair_X5 hown hK hP 0 mw_M rfl 18 (by decide) (hts _ nf_X5_pair_f79) (fun _ h9 => h9) rfl dX5_pair_65 ?_
      refine lv_iload_n hx hb dX5_pair_68 rfl (lv_at hl 1 rfl) ?_
      obtain ⟨hv_10, h⟩ := ob_in_s h
      refine va_iald hx hb hK hP 5 0 mw_pHome rfl hv_10 dX5_pair_69 ?_
      obtain ⟨rfl, rfl⟩ := ob_w h
      exact km_iret C hP hD hS dX5_pair_70
    have h := ob_f c_9 h
    by_cases c_11 : x2 = (1 : Int32)
    · have h := ob_t c_11 h
      refine lv_tableIn (tgt := 71) (off := 41) hx hb dX5_pair_30 (by rw [c_11]; decide) (by rw [c_11]; decide) (by rw [c_11]; decide) (by decide) ?_
      refine lv_aload_n hx hb dX5_pair_71 rfl (lv_at hl 0 rfl) ?_
      refine va_get (D := D) (ci := 5) (v := .ref (ad 6)) (C := RX5) (T := TX5) (N := 31) hx hb hts ni_X5_pair_X5 hown hK hP 0 mw_M rfl 19 (by decide) (hts _ nf_X5_pair_f82) (fun _ h9 => h9) rfl dX5_pair_72 ?_
      refine lv_iload_n hx hb dX5_pair_75 rfl (lv_at hl 1 rfl) ?_
      obtain ⟨hv_12, h⟩ := ob_in_s h
      refine va_iald hx hb hK hP 6 0 mw_pFrom rfl hv_12 dX5_pair_76 ?_
      obtain ⟨rfl, rfl⟩ := ob_w h
      exact km_iret C hP hD hS dX5_pair_77
    have h := ob_f c_11 h
    by_cases c_13 : x2 = (2 : Int32)
    · have h := ob_t c_13 h
      refine lv_tableIn (tgt := 78) (off := 48) hx hb dX5_pair_30 (by rw [c_13]; decide) (by rw [c_13]; decide) (by rw [c_13]; decide) (by decide) ?_
      refine lv_aload_n hx hb dX5_pair_78 rfl (lv_at hl 0 rfl) ?_
      refine va_get (D := D) (ci := 5) (v := .ref (ad 7)) (C := RX5) (T := TX5) (N := 31) hx hb hts ni_X5_pair_X5 hown hK hP 0 mw_M rfl 20 (by decide) (hts _ nf_X5_pair_f85) (fun _ h9 => h9) rfl dX5_pair_79 ?_
      refine lv_iload_n hx hb dX5_pair_82 rfl (lv_at hl 1 rfl) ?_
      obtain ⟨hv_14, h⟩ := ob_in_s h
      refine va_iald hx hb hK hP 7 0 mw_pTo rfl hv_14 dX5_pair_83 ?_
      obtain ⟨rfl, rfl⟩ := ob_w h
      exact km_iret C hP hD hS dX5_pair_84
    have h := ob_f c_13 h
    by_cases c_15 : x2 = (3 : Int32)
    · have h := ob_t c_15 h
      refine lv_tableIn (tgt := 85) (off := 55) hx hb dX5_pair_30 (by rw [c_15]; decide) (by rw [c_15]; decide) (by rw [c_15]; decide) (by decide) ?_
      refine lv_aload_n hx hb dX5_pair_85 rfl (lv_at hl 0 rfl) ?_
      refine va_get (D := D) (ci := 5) (v := .ref (ad 8)) (C := RX5) (T := TX5) (N := 31) hx hb hts ni_X5_pair_X5 hown hK hP 0 mw_M rfl 21 (by decide) (hts _ nf_X5_pair_f88) (fun _ h9 => h9) rfl dX5_pair_86 ?_
      refine lv_iload_n hx hb dX5_pair_89 rfl (lv_at hl 1 rfl) ?_
      obtain ⟨hv_16, h⟩ := ob_in_s h
      refine va_iald hx hb hK hP 8 0 mw_pRise rfl hv_16 dX5_pair_90 ?_
      obtain ⟨rfl, rfl⟩ := ob_w h
      exact km_iret C hP hD hS dX5_pair_91
    have h := ob_f c_15 h
    by_cases c_17 : x2 = (4 : Int32)
    · have h := ob_t c_17 h
      refine lv_tableIn (tgt := 92) (off := 62) hx hb dX5_pair_30 (by rw [c_17]; decide) (by rw [c_17]; decide) (by rw [c_17]; decide) (by decide) ?_
      refine lv_aload_n hx hb dX5_pair_92 rfl (lv_at hl 0 rfl) ?_
      refine va_get (D := D) (ci := 5) (v := .ref (ad 9)) (C := RX5) (T := TX5) (N := 31) hx hb hts ni_X5_pair_X5 hown hK hP 0 mw_M rfl 22 (by decide) (hts _ nf_X5_pair_f91) (fun _ h9 => h9) rfl dX5_pair_93 ?_
      refine lv_iload_n hx hb dX5_pair_96 rfl (lv_at hl 1 rfl) ?_
      obtain ⟨hv_18, h⟩ := ob_in_s h
      refine va_iald hx hb hK hP 9 0 mw_pWeight rfl hv_18 dX5_pair_97 ?_
      obtain ⟨rfl, rfl⟩ := ob_w h
      exact km_iret C hP hD hS dX5_pair_98
    have h := ob_f c_17 h
    refine lv_tableOut (tgt := 99) hx hb dX5_pair_30 (by have z := sw_no (x2); have z0 := sw_ne c_9 (z := 0) (by decide); have z1 := sw_ne c_11 (z := 1) (by decide); have z2 := sw_ne c_13 (z := 2) (by decide); have z3 := sw_ne c_15 (z := 3) (by decide); have z4 := sw_ne c_17 (z := 4) (by decide); omega) (by decide) ?_
    refine lv_aload_n hx hb dX5_pair_99 rfl (lv_at hl 0 rfl) ?_
    obtain ⟨r_20, S_21, hc_19, h⟩ := ob_2s h
    refine km_cVi (As := []) (rest := []) C (kX5_refuse hEE hc_19) (cwV 0 hts gX5_pair_X5_refuse rfl rfl rfl (by decide +kernel) ⟨(Nat.le_of_ble_eq_true rfl), (Nat.le_of_ble_eq_true rfl)⟩) mw_M rfl rfl rfl hP hD hS hl.1 rfl (Nat.le_of_ble_eq_true rfl) dX5_pair_100 (fun H locs hP hD hS => ?_)
    obtain ⟨rfl, rfl⟩ := ob_w h
    exact km_iret C hP hD hS dX5_pair_103
  · have h := ob_t c_8 h
    refine lv_aload_n hx hb dX5_pair_24 rfl (lv_at hl 0 rfl) ?_
    obtain ⟨r_23, S_24, hc_22, h⟩ := ob_2s h
    refine km_cVi (As := []) (rest := []) C (kX5_refuse hEE hc_22) (cwV 0 hts gX5_pair_X5_refuse rfl rfl rfl (by decide +kernel) ⟨(Nat.le_of_ble_eq_true rfl), (Nat.le_of_ble_eq_true rfl)⟩) mw_M rfl rfl rfl hP hD hS hl.1 rfl (Nat.le_of_ble_eq_true rfl) dX5_pair_25 (fun H locs hP hD hS => ?_)
    obtain ⟨rfl, rfl⟩ := ob_w h
    exact km_iret C hP hD hS dX5_pair_28
def fX5_part (x1 : Int32) (S : RSt) : Option (Int32 × RSt) := (ob_1 (fX5_laysPairs (-1 : Int32) (st_si S 0 (0 : Int32))) fun S_3 => (ob_1 (fX5_laysParts S_3) fun S_6 => (ob_2 (fX5_isMonth x1 S_6) fun r_8 S_9 => (if r_8 = 0 then (some ((-1 : Int32), S_9)) else (ob_in x1 8 (some (st_a S_9 9 x1.toNatClampNeg, S_9)))))))
abbrev rmX5_part : Room := { frames := 3, cells := 0, slots := 0, locals := 67 }
theorem nf_X5_part_f1 : Cond.fieldLink RX5 1 "RepeatIndexModel" "thrown" "I" ∈ wsX5_part := by decide +kernel
theorem ni_X5_part_X5 : ∀ w ∈ u_ws RX5 TX5 31, w ∈ wsX5_part := by decide +kernel
theorem nf_X5_part_f94 : Cond.fieldLink RX5 94 "RepeatIndexModel" "part" "[I" ∈ wsX5_part := by decide +kernel
set_option maxHeartbeats 4000000 in
set_option maxRecDepth 100000 in
theorem kX5_part {l : Launch} {D : va_G} {cy : Nat → ClassId} {ad : Nat → Nat} {E : ke_T} (hEE : km_E E) {x1 : Int32} {S : RSt} {r : Int32} {S' : RSt} (h : fX5_part x1 S = some (r, S')) : km_i l D (mw_t cy) (mw_w cy ad) E yX5_part wsX5_part rmX5_part [.ref (ad 0), .int x1] S r S' := by
  refine km_i_in (cc := cX5_part) (nL := 2) hEE (by decide) rfl (Nat.le_of_ble_eq_true rfl) ?_
  intro p e s m below meth c A H ls C hP hD hS hl
  have C : km_C p s m _ meth c cX5_part 2 RX5 wsX5_part (some .int) D (mw_t cy) E A := C
  obtain ⟨⟨hx, hb, hml, hown, hts⟩, hr, hlk, hK, hA, hE, hEE⟩ := id C
  have hl : lv_has ls 2 [(0, .ref (ad 0)), (1, .int x1)] := hl
  unfold fX5_part at h
  refine lv_aload_n hx hb dX5_part_0 rfl (lv_at hl 0 rfl) ?_
  refine lv_iconst (v := 0) hx hb dX5_part_1 (by decide) ?_
  refine va_put (D := D) (ci := 5) (v := .int (0 : Int32)) (ty := .int) (C := RX5) (T := TX5) (N := 31) hx hb hts ni_X5_part_X5 tyX5 tyX5_ok nmX5 hown hK hP hD hS 0 mw_M rfl 0 (by decide) (hts _ nf_X5_part_f1) (fun _ h9 => h9) rfl (by decide +kernel) rfl rfl (Nat.le_of_ble_eq_true rfl) dX5_part_2 (fun H locs hP hD hS => ?_)
  have hP := st_ps mw_s_thrown hP
  have hD := st_ds mw_s_thrown hD
  refine lv_aload_n hx hb dX5_part_5 rfl (lv_at hl 0 rfl) ?_
  refine lv_iconst (v := -1) hx hb dX5_part_6 (by decide) ?_
  obtain ⟨S_3, hc_1, h⟩ := ob_1s h
  refine km_cVv (As := [.int (-1 : Int32)]) (rest := []) C (kX5_laysPairs hEE hc_1) (cwV 1 hts gX5_part_X5_laysPairs rfl rfl rfl (by decide +kernel) ⟨(Nat.le_of_ble_eq_true rfl), (Nat.le_of_ble_eq_true rfl)⟩) mw_M rfl rfl rfl hP hD hS hl.1 rfl (Nat.le_of_ble_eq_true rfl) dX5_part_7 (fun H locs hP hD hS => ?_)
  refine lv_aload_n hx hb dX5_part_10 rfl (lv_at hl 0 rfl) ?_
  obtain ⟨S_6, hc_4, h⟩ := ob_1s h
  refine km_cVv (As := []) (rest := []) C (kX5_laysParts hEE hc_4) (cwV 0 hts gX5_part_X5_laysParts rfl rfl rfl (by decide +kernel) ⟨(Nat.le_of_ble_eq_true rfl), (Nat.le_of_ble_eq_true rfl)⟩) mw_M rfl rfl rfl hP hD hS hl.1 rfl (Nat.le_of_ble_eq_true rfl) dX5_part_11 (fun H locs hP hD hS => ?_)
  refine lv_aload_n hx hb dX5_part_14 rfl (lv_at hl 0 rfl) ?_
  refine lv_iload_n hx hb dX5_part_15 rfl (lv_at hl 1 rfl) ?_
  obtain ⟨r_8, S_9, hc_7, h⟩ := ob_2s h
  refine km_cVz (As := [.int x1]) (rest := []) C (kX5_isMonth hEE hc_7) (cwV 1 hts gX5_part_X5_isMonth rfl rfl rfl (by decide +kernel) ⟨(Nat.le_of_ble_eq_true rfl), (Nat.le_of_ble_eq_true rfl)⟩) mw_M rfl rfl rfl hP hD hS hl.1 rfl (Nat.le_of_ble_eq_true rfl) dX5_part_16 (fun H locs hP hD hS hz_10 => ?_)
  refine lv_if_eq (tgt := 31) hx hb dX5_part_19 (by decide) (fun c_11 => ?_) (fun c_11 => ?_)
  · have h := ob_t c_11 h
    refine lv_iconst (v := -1) hx hb dX5_part_31 (by decide) ?_
    obtain ⟨rfl, rfl⟩ := ob_w h
    exact km_iret C hP hD hS dX5_part_32
  · have h := ob_f c_11 h
    refine lv_aload_n hx hb dX5_part_22 rfl (lv_at hl 0 rfl) ?_
    refine va_get (D := D) (ci := 5) (v := .ref (ad 10)) (C := RX5) (T := TX5) (N := 31) hx hb hts ni_X5_part_X5 hown hK hP 0 mw_M rfl 24 (by decide) (hts _ nf_X5_part_f94) (fun _ h9 => h9) rfl dX5_part_23 ?_
    refine lv_iload_n hx hb dX5_part_26 rfl (lv_at hl 1 rfl) ?_
    obtain ⟨hv_12, h⟩ := ob_in_s h
    refine va_iald hx hb hK hP 10 0 mw_part rfl hv_12 dX5_part_27 ?_
    refine lv_goto (tgt := 32) hx hb dX5_part_28 (by decide) ?_
    obtain ⟨rfl, rfl⟩ := ob_w h
    exact km_iret C hP hD hS dX5_part_32
def fX5_index (x1 : Int32) (x2 : Int32) (S : RSt) : Option (Int64 × RSt) := (ob_2 (fX5_isMonth x1 (st_si S 0 (0 : Int32))) fun r_2 S_3 => (if r_2 = 0 then (ob_2 (fX5_refuse S_3) fun r_14 S_15 => (some (r_14.toInt64, S_15))) else (ob_1 (fX5_solves (-1 : Int32) S_3) fun S_8 => (ob_in x1 8 (ob_2 (fX5_lowest (st_g S_8 2 x1.toNatClampNeg) x2 S_8) fun r_11 S_12 => (some (r_11, S_12)))))))
abbrev rmX5_index : Room := { frames := 4, cells := 0, slots := 0, locals := 92 }
theorem nf_X5_index_f1 : Cond.fieldLink RX5 1 "RepeatIndexModel" "thrown" "I" ∈ wsX5_index := by decide +kernel
theorem ni_X5_index_X5 : ∀ w ∈ u_ws RX5 TX5 31, w ∈ wsX5_index := by decide +kernel
theorem nf_X5_index_f107 : Cond.fieldLink RX5 107 "RepeatIndexModel" "upper" "[J" ∈ wsX5_index := by decide +kernel
set_option maxHeartbeats 4000000 in
set_option maxRecDepth 100000 in
theorem kX5_index {l : Launch} {D : va_G} {cy : Nat → ClassId} {ad : Nat → Nat} {E : ke_T} (hEE : km_E E) {x1 : Int32} {x2 : Int32} {S : RSt} {r : Int64} {S' : RSt} (h : fX5_index x1 x2 S = some (r, S')) : km_l l D (mw_t cy) (mw_w cy ad) E yX5_index wsX5_index rmX5_index [.ref (ad 0), .int x1, .int x2] S r S' := by
  refine km_l_in (cc := cX5_index) (nL := 3) hEE (by decide) rfl (Nat.le_of_ble_eq_true rfl) ?_
  intro p e s m below meth c A H ls C hP hD hS hl
  have C : km_C p s m _ meth c cX5_index 3 RX5 wsX5_index (some .long) D (mw_t cy) E A := C
  obtain ⟨⟨hx, hb, hml, hown, hts⟩, hr, hlk, hK, hA, hE, hEE⟩ := id C
  have hl : lv_has ls 3 [(0, .ref (ad 0)), (1, .int x1), (2, .int x2)] := hl
  unfold fX5_index at h
  refine lv_aload_n hx hb dX5_index_0 rfl (lv_at hl 0 rfl) ?_
  refine lv_iconst (v := 0) hx hb dX5_index_1 (by decide) ?_
  refine va_put (D := D) (ci := 5) (v := .int (0 : Int32)) (ty := .int) (C := RX5) (T := TX5) (N := 31) hx hb hts ni_X5_index_X5 tyX5 tyX5_ok nmX5 hown hK hP hD hS 0 mw_M rfl 0 (by decide) (hts _ nf_X5_index_f1) (fun _ h9 => h9) rfl (by decide +kernel) rfl rfl (Nat.le_of_ble_eq_true rfl) dX5_index_2 (fun H locs hP hD hS => ?_)
  have hP := st_ps mw_s_thrown hP
  have hD := st_ds mw_s_thrown hD
  refine lv_aload_n hx hb dX5_index_5 rfl (lv_at hl 0 rfl) ?_
  refine lv_iload_n hx hb dX5_index_6 rfl (lv_at hl 1 rfl) ?_
  obtain ⟨r_2, S_3, hc_1, h⟩ := ob_2s h
  refine km_cVz (As := [.int x1]) (rest := []) C (kX5_isMonth hEE hc_1) (cwV 1 hts gX5_index_X5_isMonth rfl rfl rfl (by decide +kernel) ⟨(Nat.le_of_ble_eq_true rfl), (Nat.le_of_ble_eq_true rfl)⟩) mw_M rfl rfl rfl hP hD hS hl.1 rfl (Nat.le_of_ble_eq_true rfl) dX5_index_7 (fun H locs hP hD hS hz_4 => ?_)
  refine lv_if_ne (tgt := 19) hx hb dX5_index_10 (by decide) (fun c_5 => ?_) (fun c_5 => ?_)
  · have h := ob_f c_5 h
    refine lv_aload_n hx hb dX5_index_19 rfl (lv_at hl 0 rfl) ?_
    refine lv_iconst (v := -1) hx hb dX5_index_20 (by decide) ?_
    obtain ⟨S_8, hc_6, h⟩ := ob_1s h
    refine km_cVv (As := [.int (-1 : Int32)]) (rest := []) C (kX5_solves hEE hc_6) (cwV 1 hts gX5_index_X5_solves rfl rfl rfl (by decide +kernel) ⟨(Nat.le_of_ble_eq_true rfl), (Nat.le_of_ble_eq_true rfl)⟩) mw_M rfl rfl rfl hP hD hS hl.1 rfl (Nat.le_of_ble_eq_true rfl) dX5_index_21 (fun H locs hP hD hS => ?_)
    refine lv_aload_n hx hb dX5_index_24 rfl (lv_at hl 0 rfl) ?_
    refine lv_aload_n hx hb dX5_index_25 rfl (lv_at hl 0 rfl) ?_
    refine va_get (D := D) (ci := 5) (v := .ref (ad 14)) (C := RX5) (T := TX5) (N := 31) hx hb hts ni_X5_index_X5 hown hK hP 0 mw_M rfl 28 (by decide) (hts _ nf_X5_index_f107) (fun _ h9 => h9) rfl dX5_index_26 ?_
    refine lv_iload_n hx hb dX5_index_29 rfl (lv_at hl 1 rfl) ?_
    obtain ⟨hv_9, h⟩ := ob_in_s h
    refine va_lald hx hb hK hP 14 1 mw_upper rfl hv_9 dX5_index_30 ?_
    refine lv_iload_n hx hb dX5_index_31 rfl (lv_at hl 2 rfl) ?_
    obtain ⟨r_11, S_12, hc_10, h⟩ := ob_2s h
    refine km_cVl (As := [.long (st_g S_8 2 x1.toNatClampNeg), .int x2]) (rest := []) C (kX5_lowest hEE hc_10) (cwV 2 hts gX5_index_X5_lowest rfl rfl rfl (by decide +kernel) ⟨(Nat.le_of_ble_eq_true rfl), (Nat.le_of_ble_eq_true rfl)⟩) mw_M rfl rfl rfl hP hD hS hl.1 rfl (Nat.le_of_ble_eq_true rfl) dX5_index_32 (fun H locs hP hD hS => ?_)
    obtain ⟨rfl, rfl⟩ := ob_w h
    exact km_lret C hP hD hS dX5_index_35
  · have h := ob_t c_5 h
    refine lv_aload_n hx hb dX5_index_13 rfl (lv_at hl 0 rfl) ?_
    obtain ⟨r_14, S_15, hc_13, h⟩ := ob_2s h
    refine km_cVi (As := []) (rest := []) C (kX5_refuse hEE hc_13) (cwV 0 hts gX5_index_X5_refuse rfl rfl rfl (by decide +kernel) ⟨(Nat.le_of_ble_eq_true rfl), (Nat.le_of_ble_eq_true rfl)⟩) mw_M rfl rfl rfl hP hD hS hl.1 rfl (Nat.le_of_ble_eq_true rfl) dX5_index_14 (fun H locs hP hD hS => ?_)
    refine lv_i2l hx hb dX5_index_17 rfl ?_
    obtain ⟨rfl, rfl⟩ := ob_w h
    exact km_lret C hP hD hS dX5_index_18
def fX5_off (x1 : Int32) (x2 : Int32) (S : RSt) : Option (Int64 × RSt) := (ob_1 (fX5_solves (-1 : Int32) (st_si S 0 (0 : Int32))) fun S_3 => (ob_2 (fX5_isIn x1 (0 : Int32) ((st_i S_3 13) - (1 : Int32)) S_3) fun r_5 S_6 => (if r_5 = 0 then (ob_2 (fX5_refuse S_6) fun r_16 S_17 => (some (r_16.toInt64, S_17))) else (ob_2 (fX5_offOf x1 S_6) fun r_10 S_11 => (ob_2 (fX5_lowest r_10 x2 S_11) fun r_13 S_14 => (some (r_13, S_14)))))))
abbrev rmX5_off : Room := { frames := 4, cells := 0, slots := 0, locals := 92 }
theorem nf_X5_off_f1 : Cond.fieldLink RX5 1 "RepeatIndexModel" "thrown" "I" ∈ wsX5_off := by decide +kernel
theorem ni_X5_off_X5 : ∀ w ∈ u_ws RX5 TX5 31, w ∈ wsX5_off := by decide +kernel
theorem nf_X5_off_f175 : Cond.fieldLink RX5 175 "RepeatIndexModel" "pairs" "I" ∈ wsX5_off := by decide +kernel
set_option maxHeartbeats 4000000 in
set_option maxRecDepth 100000 in
theorem kX5_off {l : Launch} {D : va_G} {cy : Nat → ClassId} {ad : Nat → Nat} {E : ke_T} (hEE : km_E E) {x1 : Int32} {x2 : Int32} {S : RSt} {r : Int64} {S' : RSt} (h : fX5_off x1 x2 S = some (r, S')) : km_l l D (mw_t cy) (mw_w cy ad) E yX5_off wsX5_off rmX5_off [.ref (ad 0), .int x1, .int x2] S r S' := by
  refine km_l_in (cc := cX5_off) (nL := 3) hEE (by decide) rfl (Nat.le_of_ble_eq_true rfl) ?_
  intro p e s m below meth c A H ls C hP hD hS hl
  have C : km_C p s m _ meth c cX5_off 3 RX5 wsX5_off (some .long) D (mw_t cy) E A := C
  obtain ⟨⟨hx, hb, hml, hown, hts⟩, hr, hlk, hK, hA, hE, hEE⟩ := id C
  have hl : lv_has ls 3 [(0, .ref (ad 0)), (1, .int x1), (2, .int x2)] := hl
  unfold fX5_off at h
  refine lv_aload_n hx hb dX5_off_0 rfl (lv_at hl 0 rfl) ?_
  refine lv_iconst (v := 0) hx hb dX5_off_1 (by decide) ?_
  refine va_put (D := D) (ci := 5) (v := .int (0 : Int32)) (ty := .int) (C := RX5) (T := TX5) (N := 31) hx hb hts ni_X5_off_X5 tyX5 tyX5_ok nmX5 hown hK hP hD hS 0 mw_M rfl 0 (by decide) (hts _ nf_X5_off_f1) (fun _ h9 => h9) rfl (by decide +kernel) rfl rfl (Nat.le_of_ble_eq_true rfl) dX5_off_2 (fun H locs hP hD hS => ?_)
  have hP := st_ps mw_s_thrown hP
  have hD := st_ds mw_s_thrown hD
  refine lv_aload_n hx hb dX5_off_5 rfl (lv_at hl 0 rfl) ?_
  refine lv_iconst (v := -1) hx hb dX5_off_6 (by decide) ?_
  obtain ⟨S_3, hc_1, h⟩ := ob_1s h
  refine km_cVv (As := [.int (-1 : Int32)]) (rest := []) C (kX5_solves hEE hc_1) (cwV 1 hts gX5_off_X5_solves rfl rfl rfl (by decide +kernel) ⟨(Nat.le_of_ble_eq_true rfl), (Nat.le_of_ble_eq_true rfl)⟩) mw_M rfl rfl rfl hP hD hS hl.1 rfl (Nat.le_of_ble_eq_true rfl) dX5_off_7 (fun H locs hP hD hS => ?_)
  refine lv_iload_n hx hb dX5_off_10 rfl (lv_at hl 1 rfl) ?_
  refine lv_iconst (v := 0) hx hb dX5_off_11 (by decide) ?_
  refine lv_aload_n hx hb dX5_off_12 rfl (lv_at hl 0 rfl) ?_
  refine va_get (D := D) (ci := 5) (v := .int (st_i S_3 13)) (C := RX5) (T := TX5) (N := 31) hx hb hts ni_X5_off_X5 hown hK hP 0 mw_M rfl 23 (by decide) (hts _ nf_X5_off_f175) (fun _ h9 => h9) rfl dX5_off_13 ?_
  refine lv_iconst (v := 1) hx hb dX5_off_16 (by decide) ?_
  refine lv_isub hx hb dX5_off_17 ?_
  obtain ⟨r_5, S_6, hc_4, h⟩ := ob_2s h
  refine km_cSz (As := [.int x1, .int (0 : Int32), .int ((st_i S_3 13) - (1 : Int32))]) (rest := []) C (kX5_isIn hEE hc_4) (va_cwS 3 hts gX5_off_X5_isIn rfl rfl rfl (by decide +kernel) ⟨(Nat.le_of_ble_eq_true rfl), (Nat.le_of_ble_eq_true rfl)⟩) rfl hP hD hS hl.1 rfl (Nat.le_of_ble_eq_true rfl) dX5_off_18 (fun H locs hP hD hS hz_7 => ?_)
  refine lv_if_ne (tgt := 30) hx hb dX5_off_21 (by decide) (fun c_8 => ?_) (fun c_8 => ?_)
  · have h := ob_f c_8 h
    refine lv_aload_n hx hb dX5_off_30 rfl (lv_at hl 0 rfl) ?_
    refine lv_aload_n hx hb dX5_off_31 rfl (lv_at hl 0 rfl) ?_
    refine lv_iload_n hx hb dX5_off_32 rfl (lv_at hl 1 rfl) ?_
    obtain ⟨r_10, S_11, hc_9, h⟩ := ob_2s h
    refine km_cVl (As := [.int x1]) (rest := [.ref (ad 0)]) C (kX5_offOf hEE hc_9) (cwV 1 hts gX5_off_X5_offOf rfl rfl rfl (by decide +kernel) ⟨(Nat.le_of_ble_eq_true rfl), (Nat.le_of_ble_eq_true rfl)⟩) mw_M rfl rfl rfl hP hD hS hl.1 rfl (Nat.le_of_ble_eq_true rfl) dX5_off_33 (fun H locs hP hD hS => ?_)
    refine lv_iload_n hx hb dX5_off_36 rfl (lv_at hl 2 rfl) ?_
    obtain ⟨r_13, S_14, hc_12, h⟩ := ob_2s h
    refine km_cVl (As := [.long r_10, .int x2]) (rest := []) C (kX5_lowest hEE hc_12) (cwV 2 hts gX5_off_X5_lowest rfl rfl rfl (by decide +kernel) ⟨(Nat.le_of_ble_eq_true rfl), (Nat.le_of_ble_eq_true rfl)⟩) mw_M rfl rfl rfl hP hD hS hl.1 rfl (Nat.le_of_ble_eq_true rfl) dX5_off_37 (fun H locs hP hD hS => ?_)
    obtain ⟨rfl, rfl⟩ := ob_w h
    exact km_lret C hP hD hS dX5_off_40
  · have h := ob_t c_8 h
    refine lv_aload_n hx hb dX5_off_24 rfl (lv_at hl 0 rfl) ?_
    obtain ⟨r_16, S_17, hc_15, h⟩ := ob_2s h
    refine km_cVi (As := []) (rest := []) C (kX5_refuse hEE hc_15) (cwV 0 hts gX5_off_X5_refuse rfl rfl rfl (by decide +kernel) ⟨(Nat.le_of_ble_eq_true rfl), (Nat.le_of_ble_eq_true rfl)⟩) mw_M rfl rfl rfl hP hD hS hl.1 rfl (Nat.le_of_ble_eq_true rfl) dX5_off_25 (fun H locs hP hD hS => ?_)
    refine lv_i2l hx hb dX5_off_28 rfl ?_
    obtain ⟨rfl, rfl⟩ := ob_w h
    exact km_lret C hP hD hS dX5_off_29
def fX5_error_L15 : Nat → Int32 → Int64 → Int32 → RSt → Option (Int64 × RSt)
  | 0, _, _, _, _ => none
  | n + 1, x1, x2, x4, S => (if (st_i S 13) ≤ x4 then (some (x2, S)) else (ob_in x4 48 (ob_in x4 48 (ob_in x4 48 (fX5_error_L15 n x1 (x2 + ((((st_j S 1) * ((st_a S 8 x4.toNatClampNeg).toInt64)) * ((st_a S 7 x4.toNatClampNeg).toInt64)) * ((st_a S 7 x4.toNatClampNeg).toInt64))) (x4 + (1 : Int32)) S)))))
def fX5_error_L67 : Nat → Int32 → Int64 → Int32 → RSt → Option (Int64 × RSt)
  | 0, _, _, _, _ => none
  | n + 1, x1, x2, x4, S => (if (st_i S 14) ≤ x4 then (some (x2, S)) else (ob_in x4 8 (ob_in (st_a S 10 x4.toNatClampNeg) 8 (ob_in x4 8 (fX5_error_L67 n x1 (x2 - ((st_g S 2 (st_a S 10 x4.toNatClampNeg).toNatClampNeg) * (st_g S 1 x4.toNatClampNeg))) (x4 + (1 : Int32)) S)))))
def fX5_error (x1 : Int32) (S : RSt) : Option (Int64 × RSt) := (ob_1 (fX5_solves (-1 : Int32) (st_si S 0 (0 : Int32))) fun S_3 => (ob_2 (fX5_error_L15 1000 x1 (0 : Int64) (0 : Int32) S_3) fun o_10 S_9 => (ob_2 (fX5_error_L67 1000 x1 o_10 (0 : Int32) S_9) fun o_17 S_16 => (ob_2 (fX5_lowest o_17 x1 S_16) fun r_19 S_20 => (some (r_19, S_20))))))
abbrev rmX5_error : Room := { frames := 4, cells := 0, slots := 0, locals := 92 }
theorem nf_X5_error_f1 : Cond.fieldLink RX5 1 "RepeatIndexModel" "thrown" "I" ∈ wsX5_error := by decide +kernel
theorem ni_X5_error_X5 : ∀ w ∈ u_ws RX5 TX5 31, w ∈ wsX5_error := by decide +kernel
theorem nf_X5_error_f175 : Cond.fieldLink RX5 175 "RepeatIndexModel" "pairs" "I" ∈ wsX5_error := by decide +kernel
theorem nf_X5_error_f203 : Cond.fieldLink RX5 203 "RepeatIndexModel" "lower" "J" ∈ wsX5_error := by decide +kernel
theorem nf_X5_error_f91 : Cond.fieldLink RX5 91 "RepeatIndexModel" "pWeight" "[I" ∈ wsX5_error := by decide +kernel
theorem nf_X5_error_f88 : Cond.fieldLink RX5 88 "RepeatIndexModel" "pRise" "[I" ∈ wsX5_error := by decide +kernel
theorem nf_X5_error_f184 : Cond.fieldLink RX5 184 "RepeatIndexModel" "many" "I" ∈ wsX5_error := by decide +kernel
theorem nf_X5_error_f107 : Cond.fieldLink RX5 107 "RepeatIndexModel" "upper" "[J" ∈ wsX5_error := by decide +kernel
theorem nf_X5_error_f97 : Cond.fieldLink RX5 97 "RepeatIndexModel" "unknown" "[I" ∈ wsX5_error := by decide +kernel
theorem nf_X5_error_f104 : Cond.fieldLink RX5 104 "RepeatIndexModel" "right" "[J" ∈ wsX5_error := by decide +kernel
set_option maxHeartbeats 4000000 in
set_option maxRecDepth 100000 in
theorem kX5_error_L15 {l : Launch} {D : va_G} {cy : Nat → ClassId} {ad : Nat → Nat} {E : ke_T} {p : Program} {e : Env} {s : State} {m : MethodId} {args : Array Value} {below : List Frame} {meth : Method} {c : Code} {A : Nat → Prop} {Q : State → Prop} (C : km_C p s m args meth c cX5_error 5 RX5 wsX5_error (some .long) D (mw_t cy) E A) : ∀ (n : Nat) (x1 : Int32) (x2 : Int64) (x4 : Int32) (S : RSt) (o2 : Int64) (S' : RSt) (h : fX5_error_L15 n x1 x2 x4 S = some (o2, S')) {H : Heap} {locs : List Loc} {ls : Array Slot} (hP : va_P D vwCl ((mw_w cy ad) S) H) (hD : va_D A ((mw_w cy ad) S)) (hS : va_S A s.heap H locs) (hl : lv_has ls 5 [(0, .ref (ad 0)), (1, .int x1), (2, .long x2), (4, .int x4)]) (kx0 : ∀ (H : Heap) (locs : List Loc) (ls : Array Slot), va_P D vwCl ((mw_w cy ad) S') H → va_D A ((mw_w cy ad) S') → va_S A s.heap H locs → lv_has ls 5 [(0, .ref (ad 0)), (1, .int x1), (2, .long o2)] → W p l e rmX5_error s m args below meth c H locs 0 0 Q (F0 m 64 ls [])), W p l e rmX5_error s m args below meth c H locs 0 0 Q (F0 m 15 ls []) := by
  obtain ⟨⟨hx, hb, hml, hown, hts⟩, hr, hlk, hK, hA, hE, hEE⟩ := id C
  intro n
  induction n with
  | zero =>
    intro x1 x2 x4 S o2 S' h
    rw [fX5_error_L15] at h
    cases h
  | succ n ih =>
    intro x1 x2 x4 S o2 S' h H locs ls hP hD hS hl kx0
    rw [fX5_error_L15] at h
    refine lv_iload hx hb dX5_error_15 (lv_at hl 3 rfl) ?_
    refine lv_aload_n hx hb dX5_error_17 rfl (lv_at hl 0 rfl) ?_
    refine va_get (D := D) (ci := 5) (v := .int (st_i S 13)) (C := RX5) (T := TX5) (N := 31) hx hb hts ni_X5_error_X5 hown hK hP 0 mw_M rfl 23 (by decide) (hts _ nf_X5_error_f175) (fun _ h9 => h9) rfl dX5_error_18 ?_
    refine lv_icmp_ge (tgt := 64) hx hb dX5_error_21 (by decide) (fun c_4 => ?_) (fun c_4 => ?_)
    · have h := ob_t c_4 h
      cases h
      exact kx0 _ _ _ hP hD hS (lv_sub hl [0, 1, 2] rfl)
    · have h := ob_f c_4 h
      refine lv_lload_n hx hb dX5_error_24 rfl (lv_at hl 2 rfl) ?_
      refine lv_aload_n hx hb dX5_error_25 rfl (lv_at hl 0 rfl) ?_
      refine va_get (D := D) (ci := 5) (v := .long (st_j S 1)) (C := RX5) (T := TX5) (N := 31) hx hb hts ni_X5_error_X5 hown hK hP 0 mw_M rfl 30 (by decide) (hts _ nf_X5_error_f203) (fun _ h9 => h9) rfl dX5_error_26 ?_
      refine lv_aload_n hx hb dX5_error_29 rfl (lv_at hl 0 rfl) ?_
      refine va_get (D := D) (ci := 5) (v := .ref (ad 9)) (C := RX5) (T := TX5) (N := 31) hx hb hts ni_X5_error_X5 hown hK hP 0 mw_M rfl 22 (by decide) (hts _ nf_X5_error_f91) (fun _ h9 => h9) rfl dX5_error_30 ?_
      refine lv_iload hx hb dX5_error_33 (lv_at hl 3 rfl) ?_
      obtain ⟨hv_5, h⟩ := ob_in_s h
      refine va_iald hx hb hK hP 9 0 mw_pWeight rfl hv_5 dX5_error_35 ?_
      refine lv_i2l hx hb dX5_error_36 rfl ?_
      refine lv_lmul hx hb dX5_error_37 ?_
      refine lv_aload_n hx hb dX5_error_38 rfl (lv_at hl 0 rfl) ?_
      refine va_get (D := D) (ci := 5) (v := .ref (ad 8)) (C := RX5) (T := TX5) (N := 31) hx hb hts ni_X5_error_X5 hown hK hP 0 mw_M rfl 21 (by decide) (hts _ nf_X5_error_f88) (fun _ h9 => h9) rfl dX5_error_39 ?_
      refine lv_iload hx hb dX5_error_42 (lv_at hl 3 rfl) ?_
      obtain ⟨hv_6, h⟩ := ob_in_s h
      refine va_iald hx hb hK hP 8 0 mw_pRise rfl hv_6 dX5_error_44 ?_
      refine lv_i2l hx hb dX5_error_45 rfl ?_
      refine lv_lmul hx hb dX5_error_46 ?_
      refine lv_aload_n hx hb dX5_error_47 rfl (lv_at hl 0 rfl) ?_
      refine va_get (D := D) (ci := 5) (v := .ref (ad 8)) (C := RX5) (T := TX5) (N := 31) hx hb hts ni_X5_error_X5 hown hK hP 0 mw_M rfl 21 (by decide) (hts _ nf_X5_error_f88) (fun _ h9 => h9) rfl dX5_error_48 ?_
      refine lv_iload hx hb dX5_error_51 (lv_at hl 3 rfl) ?_
      obtain ⟨hv_7, h⟩ := ob_in_s h
      refine va_iald hx hb hK hP 8 0 mw_pRise rfl hv_7 dX5_error_53 ?_
      refine lv_i2l hx hb dX5_error_54 rfl ?_
      refine lv_lmul hx hb dX5_error_55 ?_
      refine lv_ladd hx hb dX5_error_56 ?_
      refine lv_lstore_n (lv' := [(2, .long (x2 + ((((st_j S 1) * ((st_a S 8 x4.toNatClampNeg).toInt64)) * ((st_a S 7 x4.toNatClampNeg).toInt64)) * ((st_a S 7 x4.toNatClampNeg).toInt64)))), (0, .ref (ad 0)), (1, .int x1), (4, .int x4)]) hx hb dX5_error_57 rfl hl (by decide) rfl (fun ls hl => ?_)
      refine lv_iinc (v := x4 + (1 : Int32)) (lv' := [(4, .int (x4 + (1 : Int32))), (2, .long (x2 + ((((st_j S 1) * ((st_a S 8 x4.toNatClampNeg).toInt64)) * ((st_a S 7 x4.toNatClampNeg).toInt64)) * ((st_a S 7 x4.toNatClampNeg).toInt64)))), (0, .ref (ad 0)), (1, .int x1)]) hx hb dX5_error_58 hl (k := 3) rfl (congrArg (fun z => x4 + z) (by decide)) (by decide) rfl (fun ls hl => ?_)
      refine lv_goto (tgt := 15) hx hb dX5_error_61 (by decide) ?_
      exact ih _ _ _ _ _ _ h hP hD hS (lv_sub hl [2, 3, 1, 0] rfl) kx0
set_option maxHeartbeats 4000000 in
set_option maxRecDepth 100000 in
theorem kX5_error_L67 {l : Launch} {D : va_G} {cy : Nat → ClassId} {ad : Nat → Nat} {E : ke_T} {p : Program} {e : Env} {s : State} {m : MethodId} {args : Array Value} {below : List Frame} {meth : Method} {c : Code} {A : Nat → Prop} {Q : State → Prop} (C : km_C p s m args meth c cX5_error 5 RX5 wsX5_error (some .long) D (mw_t cy) E A) : ∀ (n : Nat) (x1 : Int32) (x2 : Int64) (x4 : Int32) (S : RSt) (o2 : Int64) (S' : RSt) (h : fX5_error_L67 n x1 x2 x4 S = some (o2, S')) {H : Heap} {locs : List Loc} {ls : Array Slot} (hP : va_P D vwCl ((mw_w cy ad) S) H) (hD : va_D A ((mw_w cy ad) S)) (hS : va_S A s.heap H locs) (hl : lv_has ls 5 [(0, .ref (ad 0)), (1, .int x1), (2, .long x2), (4, .int x4)]) (kx0 : ∀ (H : Heap) (locs : List Loc) (ls : Array Slot), va_P D vwCl ((mw_w cy ad) S') H → va_D A ((mw_w cy ad) S') → va_S A s.heap H locs → lv_has ls 5 [(0, .ref (ad 0)), (1, .int x1), (2, .long o2)] → W p l e rmX5_error s m args below meth c H locs 0 0 Q (F0 m 105 ls [])), W p l e rmX5_error s m args below meth c H locs 0 0 Q (F0 m 67 ls []) := by
  obtain ⟨⟨hx, hb, hml, hown, hts⟩, hr, hlk, hK, hA, hE, hEE⟩ := id C
  intro n
  induction n with
  | zero =>
    intro x1 x2 x4 S o2 S' h
    rw [fX5_error_L67] at h
    cases h
  | succ n ih =>
    intro x1 x2 x4 S o2 S' h H locs ls hP hD hS hl kx0
    rw [fX5_error_L67] at h
    refine lv_iload hx hb dX5_error_67 (lv_at hl 3 rfl) ?_
    refine lv_aload_n hx hb dX5_error_69 rfl (lv_at hl 0 rfl) ?_
    refine va_get (D := D) (ci := 5) (v := .int (st_i S 14)) (C := RX5) (T := TX5) (N := 31) hx hb hts ni_X5_error_X5 hown hK hP 0 mw_M rfl 29 (by decide) (hts _ nf_X5_error_f184) (fun _ h9 => h9) rfl dX5_error_70 ?_
    refine lv_icmp_ge (tgt := 105) hx hb dX5_error_73 (by decide) (fun c_11 => ?_) (fun c_11 => ?_)
    · have h := ob_t c_11 h
      cases h
      exact kx0 _ _ _ hP hD hS (lv_sub hl [0, 1, 2] rfl)
    · have h := ob_f c_11 h
      refine lv_lload_n hx hb dX5_error_76 rfl (lv_at hl 2 rfl) ?_
      refine lv_aload_n hx hb dX5_error_77 rfl (lv_at hl 0 rfl) ?_
      refine va_get (D := D) (ci := 5) (v := .ref (ad 14)) (C := RX5) (T := TX5) (N := 31) hx hb hts ni_X5_error_X5 hown hK hP 0 mw_M rfl 28 (by decide) (hts _ nf_X5_error_f107) (fun _ h9 => h9) rfl dX5_error_78 ?_
      refine lv_aload_n hx hb dX5_error_81 rfl (lv_at hl 0 rfl) ?_
      refine va_get (D := D) (ci := 5) (v := .ref (ad 11)) (C := RX5) (T := TX5) (N := 31) hx hb hts ni_X5_error_X5 hown hK hP 0 mw_M rfl 25 (by decide) (hts _ nf_X5_error_f97) (fun _ h9 => h9) rfl dX5_error_82 ?_
      refine lv_iload hx hb dX5_error_85 (lv_at hl 3 rfl) ?_
      obtain ⟨hv_12, h⟩ := ob_in_s h
      refine va_iald hx hb hK hP 11 0 mw_unknown rfl hv_12 dX5_error_87 ?_
      obtain ⟨hv_13, h⟩ := ob_in_s h
      refine va_lald hx hb hK hP 14 1 mw_upper rfl hv_13 dX5_error_88 ?_
      refine lv_aload_n hx hb dX5_error_89 rfl (lv_at hl 0 rfl) ?_
      refine va_get (D := D) (ci := 5) (v := .ref (ad 13)) (C := RX5) (T := TX5) (N := 31) hx hb hts ni_X5_error_X5 hown hK hP 0 mw_M rfl 27 (by decide) (hts _ nf_X5_error_f104) (fun _ h9 => h9) rfl dX5_error_90 ?_
      refine lv_iload hx hb dX5_error_93 (lv_at hl 3 rfl) ?_
      obtain ⟨hv_14, h⟩ := ob_in_s h
      refine va_lald hx hb hK hP 13 1 mw_right rfl hv_14 dX5_error_95 ?_
      refine lv_lmul hx hb dX5_error_96 ?_
      refine lv_lsub hx hb dX5_error_97 ?_
      refine lv_lstore_n (lv' := [(2, .long (x2 - ((st_g S 2 (st_a S 10 x4.toNatClampNeg).toNatClampNeg) * (st_g S 1 x4.toNatClampNeg)))), (0, .ref (ad 0)), (1, .int x1), (4, .int x4)]) hx hb dX5_error_98 rfl hl (by decide) rfl (fun ls hl => ?_)
      refine lv_iinc (v := x4 + (1 : Int32)) (lv' := [(4, .int (x4 + (1 : Int32))), (2, .long (x2 - ((st_g S 2 (st_a S 10 x4.toNatClampNeg).toNatClampNeg) * (st_g S 1 x4.toNatClampNeg)))), (0, .ref (ad 0)), (1, .int x1)]) hx hb dX5_error_99 hl (k := 3) rfl (congrArg (fun z => x4 + z) (by decide)) (by decide) rfl (fun ls hl => ?_)
      refine lv_goto (tgt := 67) hx hb dX5_error_102 (by decide) ?_
      exact ih _ _ _ _ _ _ h hP hD hS (lv_sub hl [2, 3, 1, 0] rfl) kx0
set_option maxHeartbeats 4000000 in
set_option maxRecDepth 100000 in
theorem kX5_error {l : Launch} {D : va_G} {cy : Nat → ClassId} {ad : Nat → Nat} {E : ke_T} (hEE : km_E E) {x1 : Int32} {S : RSt} {r : Int64} {S' : RSt} (h : fX5_error x1 S = some (r, S')) : km_l l D (mw_t cy) (mw_w cy ad) E yX5_error wsX5_error rmX5_error [.ref (ad 0), .int x1] S r S' := by
  refine km_l_in (cc := cX5_error) (nL := 5) hEE (by decide) rfl (Nat.le_of_ble_eq_true rfl) ?_
  intro p e s m below meth c A H ls C hP hD hS hl
  have C : km_C p s m _ meth c cX5_error 5 RX5 wsX5_error (some .long) D (mw_t cy) E A := C
  obtain ⟨⟨hx, hb, hml, hown, hts⟩, hr, hlk, hK, hA, hE, hEE⟩ := id C
  have hl : lv_has ls 5 [(0, .ref (ad 0)), (1, .int x1)] := hl
  unfold fX5_error at h
  refine lv_aload_n hx hb dX5_error_0 rfl (lv_at hl 0 rfl) ?_
  refine lv_iconst (v := 0) hx hb dX5_error_1 (by decide) ?_
  refine va_put (D := D) (ci := 5) (v := .int (0 : Int32)) (ty := .int) (C := RX5) (T := TX5) (N := 31) hx hb hts ni_X5_error_X5 tyX5 tyX5_ok nmX5 hown hK hP hD hS 0 mw_M rfl 0 (by decide) (hts _ nf_X5_error_f1) (fun _ h9 => h9) rfl (by decide +kernel) rfl rfl (Nat.le_of_ble_eq_true rfl) dX5_error_2 (fun H locs hP hD hS => ?_)
  have hP := st_ps mw_s_thrown hP
  have hD := st_ds mw_s_thrown hD
  refine lv_aload_n hx hb dX5_error_5 rfl (lv_at hl 0 rfl) ?_
  refine lv_iconst (v := -1) hx hb dX5_error_6 (by decide) ?_
  obtain ⟨S_3, hc_1, h⟩ := ob_1s h
  refine km_cVv (As := [.int (-1 : Int32)]) (rest := []) C (kX5_solves hEE hc_1) (cwV 1 hts gX5_error_X5_solves rfl rfl rfl (by decide +kernel) ⟨(Nat.le_of_ble_eq_true rfl), (Nat.le_of_ble_eq_true rfl)⟩) mw_M rfl rfl rfl hP hD hS hl.1 rfl (Nat.le_of_ble_eq_true rfl) dX5_error_7 (fun H locs hP hD hS => ?_)
  refine lv_lconst (v := 0) hx hb dX5_error_10 (by decide) ?_
  refine lv_lstore_n (lv' := [(2, .long (0 : Int64)), (0, .ref (ad 0)), (1, .int x1)]) hx hb dX5_error_11 rfl hl (by decide) rfl (fun ls hl => ?_)
  refine lv_iconst (v := 0) hx hb dX5_error_12 (by decide) ?_
  refine lv_istore (lv' := [(4, .int (0 : Int32)), (2, .long (0 : Int64)), (0, .ref (ad 0)), (1, .int x1)]) hx hb dX5_error_13 hl (by decide) rfl (fun ls hl => ?_)
  obtain ⟨o_10, S_9, hq_8, h⟩ := ob_2s h
  refine kX5_error_L15  C _ _ _ _ _ _ _ hq_8 hP hD hS (lv_sub hl [2, 3, 1, 0] rfl) (fun H locs ls hP hD hS hl => ?_)
  refine lv_iconst (v := 0) hx hb dX5_error_64 (by decide) ?_
  refine lv_istore (lv' := [(4, .int (0 : Int32)), (0, .ref (ad 0)), (1, .int x1), (2, .long o_10)]) hx hb dX5_error_65 hl (by decide) rfl (fun ls hl => ?_)
  obtain ⟨o_17, S_16, hq_15, h⟩ := ob_2s h
  refine kX5_error_L67  C _ _ _ _ _ _ _ hq_15 hP hD hS (lv_sub hl [1, 2, 3, 0] rfl) (fun H locs ls hP hD hS hl => ?_)
  refine lv_aload_n hx hb dX5_error_105 rfl (lv_at hl 0 rfl) ?_
  refine lv_lload_n hx hb dX5_error_106 rfl (lv_at hl 2 rfl) ?_
  refine lv_iload_n hx hb dX5_error_107 rfl (lv_at hl 1 rfl) ?_
  obtain ⟨r_19, S_20, hc_18, h⟩ := ob_2s h
  refine km_cVl (As := [.long o_17, .int x1]) (rest := []) C (kX5_lowest hEE hc_18) (cwV 2 hts gX5_error_X5_lowest rfl rfl rfl (by decide +kernel) ⟨(Nat.le_of_ble_eq_true rfl), (Nat.le_of_ble_eq_true rfl)⟩) mw_M rfl rfl rfl hP hD hS hl.1 rfl (Nat.le_of_ble_eq_true rfl) dX5_error_108 (fun H locs hP hD hS => ?_)
  obtain ⟨rfl, rfl⟩ := ob_w h
  exact km_lret C hP hD hS dX5_error_111
def fX5_worst_L19 : Nat → Int32 → Int64 → Int32 → RSt → Option (Int32 × RSt)
  | 0, _, _, _, _ => none
  | n + 1, x1, x2, x4, S => (if (st_i S 13) ≤ x4 then (some (x1, S)) else (ob_2 (fX5_offOf x4 S) fun r_6 S_7 => (ob_j (fun (sJ_8_0 : Int64) (S_9 : RSt) => (if 0 < (lg_cmp sJ_8_0 x2) then (fX5_worst_L19 n x4 sJ_8_0 (x4 + (1 : Int32)) S_9) else (fX5_worst_L19 n x1 x2 (x4 + (1 : Int32)) S_9))) fun tJ_8 => (if 0 ≤ (lg_cmp r_6 (0 : Int64)) then (ob_2 (fX5_offOf x4 S_7) fun r_14 S_15 => (tJ_8 r_14 S_15)) else (ob_2 (fX5_offOf x4 S_7) fun r_17 S_18 => (tJ_8 (-r_17) S_18))))))
def fX5_worst (S : RSt) : Option (Int32 × RSt) := (ob_1 (fX5_solves (-1 : Int32) (st_si S 0 (0 : Int32))) fun S_3 => (ob_2 (fX5_worst_L19 1000 (-1 : Int32) (-1 : Int64) (0 : Int32) S_3) fun o_21 S_20 => (some (o_21, S_20))))
abbrev rmX5_worst : Room := { frames := 4, cells := 0, slots := 0, locals := 92 }
theorem nf_X5_worst_f1 : Cond.fieldLink RX5 1 "RepeatIndexModel" "thrown" "I" ∈ wsX5_worst := by decide +kernel
theorem ni_X5_worst_X5 : ∀ w ∈ u_ws RX5 TX5 31, w ∈ wsX5_worst := by decide +kernel
theorem nf_X5_worst_c234 : Cond.constantLong RX5 234 (-1) ∈ wsX5_worst := by decide +kernel
theorem nf_X5_worst_f175 : Cond.fieldLink RX5 175 "RepeatIndexModel" "pairs" "I" ∈ wsX5_worst := by decide +kernel
set_option maxHeartbeats 4000000 in
set_option maxRecDepth 100000 in
theorem kX5_worst_L19 {l : Launch} {D : va_G} {cy : Nat → ClassId} {ad : Nat → Nat} {E : ke_T} {p : Program} {e : Env} {s : State} {m : MethodId} {args : Array Value} {below : List Frame} {meth : Method} {c : Code} {A : Nat → Prop} {Q : State → Prop} (C : km_C p s m args meth c cX5_worst 7 RX5 wsX5_worst (some .int) D (mw_t cy) E A) : ∀ (n : Nat) (x1 : Int32) (x2 : Int64) (x4 : Int32) (S : RSt) (o1 : Int32) (S' : RSt) (h : fX5_worst_L19 n x1 x2 x4 S = some (o1, S')) {H : Heap} {locs : List Loc} {ls : Array Slot} (hP : va_P D vwCl ((mw_w cy ad) S) H) (hD : va_D A ((mw_w cy ad) S)) (hS : va_S A s.heap H locs) (hl : lv_has ls 7 [(0, .ref (ad 0)), (1, .int x1), (2, .long x2), (4, .int x4)]) (kx0 : ∀ (H : Heap) (locs : List Loc) (ls : Array Slot), va_P D vwCl ((mw_w cy ad) S') H → va_D A ((mw_w cy ad) S') → va_S A s.heap H locs → lv_has ls 7 [(1, .int o1)] → W p l e rmX5_worst s m args below meth c H locs 0 0 Q (F0 m 79 ls [])), W p l e rmX5_worst s m args below meth c H locs 0 0 Q (F0 m 19 ls []) := by
  obtain ⟨⟨hx, hb, hml, hown, hts⟩, hr, hlk, hK, hA, hE, hEE⟩ := id C
  intro n
  induction n with
  | zero =>
    intro x1 x2 x4 S o1 S' h
    rw [fX5_worst_L19] at h
    cases h
  | succ n ih =>
    intro x1 x2 x4 S o1 S' h H locs ls hP hD hS hl kx0
    rw [fX5_worst_L19] at h
    refine lv_iload hx hb dX5_worst_19 (lv_at hl 3 rfl) ?_
    refine lv_aload_n hx hb dX5_worst_21 rfl (lv_at hl 0 rfl) ?_
    refine va_get (D := D) (ci := 5) (v := .int (st_i S 13)) (C := RX5) (T := TX5) (N := 31) hx hb hts ni_X5_worst_X5 hown hK hP 0 mw_M rfl 23 (by decide) (hts _ nf_X5_worst_f175) (fun _ h9 => h9) rfl dX5_worst_22 ?_
    refine lv_icmp_ge (tgt := 79) hx hb dX5_worst_25 (by decide) (fun c_4 => ?_) (fun c_4 => ?_)
    · have h := ob_t c_4 h
      cases h
      exact kx0 _ _ _ hP hD hS (lv_sub hl [1] rfl)
    · have h := ob_f c_4 h
      refine lv_aload_n hx hb dX5_worst_28 rfl (lv_at hl 0 rfl) ?_
      refine lv_iload hx hb dX5_worst_29 (lv_at hl 3 rfl) ?_
      obtain ⟨r_6, S_7, hc_5, h⟩ := ob_2s h
      refine km_cVl (As := [.int x4]) (rest := []) C (kX5_offOf hEE hc_5) (cwV 1 hts gX5_worst_X5_offOf rfl rfl rfl (by decide +kernel) ⟨(Nat.le_of_ble_eq_true rfl), (Nat.le_of_ble_eq_true rfl)⟩) mw_M rfl rfl rfl hP hD hS hl.1 rfl (Nat.le_of_ble_eq_true rfl) dX5_worst_31 (fun H locs hP hD hS => ?_)
      refine lv_lconst (v := 0) hx hb dX5_worst_34 (by decide) ?_
      refine W.lcmp hx hb dX5_worst_35 ?_
      obtain ⟨tJ_8, hT_11, h⟩ := ob_js h
      have kJ_8 : ∀ (sJ_8_0 : Int64) (S_9 : RSt) (_ : tJ_8 sJ_8_0 S_9 = some (o1, S')) (H : Heap) (locs : List Loc) (ls : Array Slot), va_P D vwCl ((mw_w cy ad) S_9) H → va_D A ((mw_w cy ad) S_9) → va_S A s.heap H locs → lv_has ls 7 [(0, .ref (ad 0)), (1, .int x1), (2, .long x2), (4, .int x4)] → W p l e rmX5_worst s m args below meth c H locs 0 0 Q (F0 m 55 ls [.long sJ_8_0]) := by
        intro sJ_8_0 S_9 h H locs ls hP hD hS hl
        rw [← hT_11] at h
        refine lv_lstore (lv' := [(5, .long sJ_8_0), (0, .ref (ad 0)), (1, .int x1), (2, .long x2), (4, .int x4)]) hx hb dX5_worst_55 hl (by decide) rfl (fun ls hl => ?_)
        refine lv_lload hx hb dX5_worst_57 (lv_at hl 0 rfl) ?_
        refine lv_lload_n hx hb dX5_worst_59 rfl (lv_at hl 3 rfl) ?_
        refine W.lcmp hx hb dX5_worst_60 ?_
        refine lv_if_gt (tgt := 67) hx hb dX5_worst_61 (by decide) (fun c_10 => ?_) (fun c_10 => ?_)
        · have h := ob_t c_10 h
          refine lv_lload hx hb dX5_worst_67 (lv_at hl 0 rfl) ?_
          refine lv_lstore_n (lv' := [(2, .long sJ_8_0), (5, .long sJ_8_0), (0, .ref (ad 0)), (1, .int x1), (4, .int x4)]) hx hb dX5_worst_69 rfl hl (by decide) rfl (fun ls hl => ?_)
          refine lv_iload hx hb dX5_worst_70 (lv_at hl 4 rfl) ?_
          refine lv_istore_n (lv' := [(1, .int x4), (2, .long sJ_8_0), (5, .long sJ_8_0), (0, .ref (ad 0)), (4, .int x4)]) hx hb dX5_worst_72 rfl hl (by decide) rfl (fun ls hl => ?_)
          refine lv_iinc (v := x4 + (1 : Int32)) (lv' := [(4, .int (x4 + (1 : Int32))), (1, .int x4), (2, .long sJ_8_0), (5, .long sJ_8_0), (0, .ref (ad 0))]) hx hb dX5_worst_73 hl (k := 4) rfl (congrArg (fun z => x4 + z) (by decide)) (by decide) rfl (fun ls hl => ?_)
          refine lv_goto (tgt := 19) hx hb dX5_worst_76 (by decide) ?_
          exact ih _ _ _ _ _ _ h hP hD hS (lv_sub hl [4, 1, 2, 0] rfl) kx0
        · have h := ob_f c_10 h
          refine lv_goto (tgt := 73) hx hb dX5_worst_64 (by decide) ?_
          refine lv_iinc (v := x4 + (1 : Int32)) (lv' := [(4, .int (x4 + (1 : Int32))), (5, .long sJ_8_0), (0, .ref (ad 0)), (1, .int x1), (2, .long x2)]) hx hb dX5_worst_73 hl (k := 4) rfl (congrArg (fun z => x4 + z) (by decide)) (by decide) rfl (fun ls hl => ?_)
          refine lv_goto (tgt := 19) hx hb dX5_worst_76 (by decide) ?_
          exact ih _ _ _ _ _ _ h hP hD hS (lv_sub hl [2, 3, 4, 0] rfl) kx0
      refine lv_if_ge (tgt := 49) hx hb dX5_worst_36 (by decide) (fun c_12 => ?_) (fun c_12 => ?_)
      · have h := ob_t c_12 h
        refine lv_aload_n hx hb dX5_worst_49 rfl (lv_at hl 0 rfl) ?_
        refine lv_iload hx hb dX5_worst_50 (lv_at hl 3 rfl) ?_
        obtain ⟨r_14, S_15, hc_13, h⟩ := ob_2s h
        refine km_cVl (As := [.int x4]) (rest := []) C (kX5_offOf hEE hc_13) (cwV 1 hts gX5_worst_X5_offOf rfl rfl rfl (by decide +kernel) ⟨(Nat.le_of_ble_eq_true rfl), (Nat.le_of_ble_eq_true rfl)⟩) mw_M rfl rfl rfl hP hD hS hl.1 rfl (Nat.le_of_ble_eq_true rfl) dX5_worst_52 (fun H locs hP hD hS => ?_)
        exact kJ_8 _ _ h _ _ _ hP hD hS (lv_sub hl [0, 1, 2, 3] rfl)
      · have h := ob_f c_12 h
        refine lv_aload_n hx hb dX5_worst_39 rfl (lv_at hl 0 rfl) ?_
        refine lv_iload hx hb dX5_worst_40 (lv_at hl 3 rfl) ?_
        obtain ⟨r_17, S_18, hc_16, h⟩ := ob_2s h
        refine km_cVl (As := [.int x4]) (rest := []) C (kX5_offOf hEE hc_16) (cwV 1 hts gX5_worst_X5_offOf rfl rfl rfl (by decide +kernel) ⟨(Nat.le_of_ble_eq_true rfl), (Nat.le_of_ble_eq_true rfl)⟩) mw_M rfl rfl rfl hP hD hS hl.1 rfl (Nat.le_of_ble_eq_true rfl) dX5_worst_42 (fun H locs hP hD hS => ?_)
        refine lv_lneg hx hb dX5_worst_45 ?_
        refine lv_goto (tgt := 55) hx hb dX5_worst_46 (by decide) ?_
        exact kJ_8 _ _ h _ _ _ hP hD hS (lv_sub hl [0, 1, 2, 3] rfl)
set_option maxHeartbeats 4000000 in
set_option maxRecDepth 100000 in
theorem kX5_worst {l : Launch} {D : va_G} {cy : Nat → ClassId} {ad : Nat → Nat} {E : ke_T} (hEE : km_E E) {S : RSt} {r : Int32} {S' : RSt} (h : fX5_worst S = some (r, S')) : km_i l D (mw_t cy) (mw_w cy ad) E yX5_worst wsX5_worst rmX5_worst [.ref (ad 0)] S r S' := by
  refine km_i_in (cc := cX5_worst) (nL := 7) hEE (by decide) rfl (Nat.le_of_ble_eq_true rfl) ?_
  intro p e s m below meth c A H ls C hP hD hS hl
  have C : km_C p s m _ meth c cX5_worst 7 RX5 wsX5_worst (some .int) D (mw_t cy) E A := C
  obtain ⟨⟨hx, hb, hml, hown, hts⟩, hr, hlk, hK, hA, hE, hEE⟩ := id C
  have hl : lv_has ls 7 [(0, .ref (ad 0))] := hl
  unfold fX5_worst at h
  refine lv_aload_n hx hb dX5_worst_0 rfl (lv_at hl 0 rfl) ?_
  refine lv_iconst (v := 0) hx hb dX5_worst_1 (by decide) ?_
  refine va_put (D := D) (ci := 5) (v := .int (0 : Int32)) (ty := .int) (C := RX5) (T := TX5) (N := 31) hx hb hts ni_X5_worst_X5 tyX5 tyX5_ok nmX5 hown hK hP hD hS 0 mw_M rfl 0 (by decide) (hts _ nf_X5_worst_f1) (fun _ h9 => h9) rfl (by decide +kernel) rfl rfl (Nat.le_of_ble_eq_true rfl) dX5_worst_2 (fun H locs hP hD hS => ?_)
  have hP := st_ps mw_s_thrown hP
  have hD := st_ds mw_s_thrown hD
  refine lv_aload_n hx hb dX5_worst_5 rfl (lv_at hl 0 rfl) ?_
  refine lv_iconst (v := -1) hx hb dX5_worst_6 (by decide) ?_
  obtain ⟨S_3, hc_1, h⟩ := ob_1s h
  refine km_cVv (As := [.int (-1 : Int32)]) (rest := []) C (kX5_solves hEE hc_1) (cwV 1 hts gX5_worst_X5_solves rfl rfl rfl (by decide +kernel) ⟨(Nat.le_of_ble_eq_true rfl), (Nat.le_of_ble_eq_true rfl)⟩) mw_M rfl rfl rfl hP hD hS hl.1 rfl (Nat.le_of_ble_eq_true rfl) dX5_worst_7 (fun H locs hP hD hS => ?_)
  refine lv_iconst (v := -1) hx hb dX5_worst_10 (by decide) ?_
  refine lv_istore_n (lv' := [(1, .int (-1 : Int32)), (0, .ref (ad 0))]) hx hb dX5_worst_11 rfl hl (by decide) rfl (fun ls hl => ?_)
  refine lv_ldc2 (v := -1) hx hb hown (hts _ nf_X5_worst_c234) dX5_worst_12 ?_
  refine lv_lstore_n (lv' := [(2, .long (-1 : Int64)), (1, .int (-1 : Int32)), (0, .ref (ad 0))]) hx hb dX5_worst_15 rfl hl (by decide) rfl (fun ls hl => ?_)
  refine lv_iconst (v := 0) hx hb dX5_worst_16 (by decide) ?_
  refine lv_istore (lv' := [(4, .int (0 : Int32)), (2, .long (-1 : Int64)), (1, .int (-1 : Int32)), (0, .ref (ad 0))]) hx hb dX5_worst_17 hl (by decide) rfl (fun ls hl => ?_)
  obtain ⟨o_21, S_20, hq_19, h⟩ := ob_2s h
  refine kX5_worst_L19  C _ _ _ _ _ _ _ hq_19 hP hD hS (lv_sub hl [3, 2, 1, 0] rfl) (fun H locs ls hP hD hS hl => ?_)
  refine lv_iload_n hx hb dX5_worst_79 rfl (lv_at hl 0 rfl) ?_
  obtain ⟨rfl, rfl⟩ := ob_w h
  exact km_iret C hP hD hS dX5_worst_80
def fX5_without (x1 : Int32) (x2 : Int32) (x3 : Int32) (S : RSt) : Option (Int64 × RSt) := (ob_2 (fX5_isHome x1 (st_si S 0 (0 : Int32))) fun r_2 S_3 => (if r_2 = 0 then (ob_2 (fX5_refuse S_3) fun r_7 S_8 => (some (r_7.toInt64, S_8))) else (ob_2 (fX5_isMonth x2 S_3) fun r_10 S_11 => (if r_10 = 0 then (ob_2 (fX5_refuse S_11) fun r_22 S_23 => (some (r_22.toInt64, S_23))) else (ob_1 (fX5_solves x1 S_11) fun S_16 => (ob_in x2 8 (ob_2 (fX5_lowest (st_g S_16 2 x2.toNatClampNeg) x3 S_16) fun r_19 S_20 => (some (r_19, S_20)))))))))
abbrev rmX5_without : Room := { frames := 4, cells := 0, slots := 0, locals := 92 }
theorem nf_X5_without_f1 : Cond.fieldLink RX5 1 "RepeatIndexModel" "thrown" "I" ∈ wsX5_without := by decide +kernel
theorem ni_X5_without_X5 : ∀ w ∈ u_ws RX5 TX5 31, w ∈ wsX5_without := by decide +kernel
theorem nf_X5_without_f107 : Cond.fieldLink RX5 107 "RepeatIndexModel" "upper" "[J" ∈ wsX5_without := by decide +kernel
set_option maxHeartbeats 4000000 in
set_option maxRecDepth 100000 in
theorem kX5_without {l : Launch} {D : va_G} {cy : Nat → ClassId} {ad : Nat → Nat} {E : ke_T} (hEE : km_E E) {x1 : Int32} {x2 : Int32} {x3 : Int32} {S : RSt} {r : Int64} {S' : RSt} (h : fX5_without x1 x2 x3 S = some (r, S')) : km_l l D (mw_t cy) (mw_w cy ad) E yX5_without wsX5_without rmX5_without [.ref (ad 0), .int x1, .int x2, .int x3] S r S' := by
  refine km_l_in (cc := cX5_without) (nL := 4) hEE (by decide) rfl (Nat.le_of_ble_eq_true rfl) ?_
  intro p e s m below meth c A H ls C hP hD hS hl
  have C : km_C p s m _ meth c cX5_without 4 RX5 wsX5_without (some .long) D (mw_t cy) E A := C
  obtain ⟨⟨hx, hb, hml, hown, hts⟩, hr, hlk, hK, hA, hE, hEE⟩ := id C
  have hl : lv_has ls 4 [(0, .ref (ad 0)), (1, .int x1), (2, .int x2), (3, .int x3)] := hl
  unfold fX5_without at h
  refine lv_aload_n hx hb dX5_without_0 rfl (lv_at hl 0 rfl) ?_
  refine lv_iconst (v := 0) hx hb dX5_without_1 (by decide) ?_
  refine va_put (D := D) (ci := 5) (v := .int (0 : Int32)) (ty := .int) (C := RX5) (T := TX5) (N := 31) hx hb hts ni_X5_without_X5 tyX5 tyX5_ok nmX5 hown hK hP hD hS 0 mw_M rfl 0 (by decide) (hts _ nf_X5_without_f1) (fun _ h9 => h9) rfl (by decide +kernel) rfl rfl (Nat.le_of_ble_eq_true rfl) dX5_without_2 (fun H locs hP hD hS => ?_)
  have hP := st_ps mw_s_thrown hP
  have hD := st_ds mw_s_thrown hD
  refine lv_aload_n hx hb dX5_without_5 rfl (lv_at hl 0 rfl) ?_
  refine lv_iload_n hx hb dX5_without_6 rfl (lv_at hl 1 rfl) ?_
  obtain ⟨r_2, S_3, hc_1, h⟩ := ob_2s h
  refine km_cVz (As := [.int x1]) (rest := []) C (kX5_isHome hEE hc_1) (cwV 1 hts gX5_without_X5_isHome rfl rfl rfl (by decide +kernel) ⟨(Nat.le_of_ble_eq_true rfl), (Nat.le_of_ble_eq_true rfl)⟩) mw_M rfl rfl rfl hP hD hS hl.1 rfl (Nat.le_of_ble_eq_true rfl) dX5_without_7 (fun H locs hP hD hS hz_4 => ?_)
  refine lv_if_eq (tgt := 21) hx hb dX5_without_10 (by decide) (fun c_5 => ?_) (fun c_5 => ?_)
  · have h := ob_t c_5 h
    refine lv_aload_n hx hb dX5_without_21 rfl (lv_at hl 0 rfl) ?_
    obtain ⟨r_7, S_8, hc_6, h⟩ := ob_2s h
    refine km_cVi (As := []) (rest := []) C (kX5_refuse hEE hc_6) (cwV 0 hts gX5_without_X5_refuse rfl rfl rfl (by decide +kernel) ⟨(Nat.le_of_ble_eq_true rfl), (Nat.le_of_ble_eq_true rfl)⟩) mw_M rfl rfl rfl hP hD hS hl.1 rfl (Nat.le_of_ble_eq_true rfl) dX5_without_22 (fun H locs hP hD hS => ?_)
    refine lv_i2l hx hb dX5_without_25 rfl ?_
    obtain ⟨rfl, rfl⟩ := ob_w h
    exact km_lret C hP hD hS dX5_without_26
  · have h := ob_f c_5 h
    refine lv_aload_n hx hb dX5_without_13 rfl (lv_at hl 0 rfl) ?_
    refine lv_iload_n hx hb dX5_without_14 rfl (lv_at hl 2 rfl) ?_
    obtain ⟨r_10, S_11, hc_9, h⟩ := ob_2s h
    refine km_cVz (As := [.int x2]) (rest := []) C (kX5_isMonth hEE hc_9) (cwV 1 hts gX5_without_X5_isMonth rfl rfl rfl (by decide +kernel) ⟨(Nat.le_of_ble_eq_true rfl), (Nat.le_of_ble_eq_true rfl)⟩) mw_M rfl rfl rfl hP hD hS hl.1 rfl (Nat.le_of_ble_eq_true rfl) dX5_without_15 (fun H locs hP hD hS hz_12 => ?_)
    refine lv_if_ne (tgt := 27) hx hb dX5_without_18 (by decide) (fun c_13 => ?_) (fun c_13 => ?_)
    · have h := ob_f c_13 h
      refine lv_aload_n hx hb dX5_without_27 rfl (lv_at hl 0 rfl) ?_
      refine lv_iload_n hx hb dX5_without_28 rfl (lv_at hl 1 rfl) ?_
      obtain ⟨S_16, hc_14, h⟩ := ob_1s h
      refine km_cVv (As := [.int x1]) (rest := []) C (kX5_solves hEE hc_14) (cwV 1 hts gX5_without_X5_solves rfl rfl rfl (by decide +kernel) ⟨(Nat.le_of_ble_eq_true rfl), (Nat.le_of_ble_eq_true rfl)⟩) mw_M rfl rfl rfl hP hD hS hl.1 rfl (Nat.le_of_ble_eq_true rfl) dX5_without_29 (fun H locs hP hD hS => ?_)
      refine lv_aload_n hx hb dX5_without_32 rfl (lv_at hl 0 rfl) ?_
      refine lv_aload_n hx hb dX5_without_33 rfl (lv_at hl 0 rfl) ?_
      refine va_get (D := D) (ci := 5) (v := .ref (ad 14)) (C := RX5) (T := TX5) (N := 31) hx hb hts ni_X5_without_X5 hown hK hP 0 mw_M rfl 28 (by decide) (hts _ nf_X5_without_f107) (fun _ h9 => h9) rfl dX5_without_34 ?_
      refine lv_iload_n hx hb dX5_without_37 rfl (lv_at hl 2 rfl) ?_
      obtain ⟨hv_17, h⟩ := ob_in_s h
      refine va_lald hx hb hK hP 14 1 mw_upper rfl hv_17 dX5_without_38 ?_
      refine lv_iload_n hx hb dX5_without_39 rfl (lv_at hl 3 rfl) ?_
      obtain ⟨r_19, S_20, hc_18, h⟩ := ob_2s h
      refine km_cVl (As := [.long (st_g S_16 2 x2.toNatClampNeg), .int x3]) (rest := []) C (kX5_lowest hEE hc_18) (cwV 2 hts gX5_without_X5_lowest rfl rfl rfl (by decide +kernel) ⟨(Nat.le_of_ble_eq_true rfl), (Nat.le_of_ble_eq_true rfl)⟩) mw_M rfl rfl rfl hP hD hS hl.1 rfl (Nat.le_of_ble_eq_true rfl) dX5_without_40 (fun H locs hP hD hS => ?_)
      obtain ⟨rfl, rfl⟩ := ob_w h
      exact km_lret C hP hD hS dX5_without_43
    · have h := ob_t c_13 h
      refine lv_aload_n hx hb dX5_without_21 rfl (lv_at hl 0 rfl) ?_
      obtain ⟨r_22, S_23, hc_21, h⟩ := ob_2s h
      refine km_cVi (As := []) (rest := []) C (kX5_refuse hEE hc_21) (cwV 0 hts gX5_without_X5_refuse rfl rfl rfl (by decide +kernel) ⟨(Nat.le_of_ble_eq_true rfl), (Nat.le_of_ble_eq_true rfl)⟩) mw_M rfl rfl rfl hP hD hS hl.1 rfl (Nat.le_of_ble_eq_true rfl) dX5_without_22 (fun H locs hP hD hS => ?_)
      refine lv_i2l hx hb dX5_without_25 rfl ?_
      obtain ⟨rfl, rfl⟩ := ob_w h
      exact km_lret C hP hD hS dX5_without_26
def fX5_canSell (x1 : Int32) (x2 : Int32) (x3 : Int32) (S : RSt) : Option (Int32 × RSt) := (ob_2 (fX5_isHome x1 S) fun r_2 S_3 => (if r_2 = 0 then (some ((0 : Int32), S_3)) else (ob_2 (fX5_isMonth x2 S_3) fun r_7 S_8 => (if r_7 = 0 then (some ((0 : Int32), S_8)) else (ob_2 (fX5_isSold x1 x2 S_8) fun r_12 S_13 => (if r_12 = 0 then (ob_2 (fX5_isIn x3 (0 : Int32) (999 : Int32) S_13) fun r_17 S_18 => (if r_17 = 0 then (some ((0 : Int32), S_18)) else (some ((1 : Int32), S_18)))) else (some ((0 : Int32), S_13))))))))
abbrev rmX5_canSell : Room := { frames := 2, cells := 0, slots := 0, locals := 43 }
set_option maxHeartbeats 4000000 in
set_option maxRecDepth 100000 in
theorem kX5_canSell {l : Launch} {D : va_G} {cy : Nat → ClassId} {ad : Nat → Nat} {E : ke_T} (hEE : km_E E) {x1 : Int32} {x2 : Int32} {x3 : Int32} {S : RSt} {r : Int32} {S' : RSt} (h : fX5_canSell x1 x2 x3 S = some (r, S')) : km_z l D (mw_t cy) (mw_w cy ad) E yX5_canSell wsX5_canSell rmX5_canSell [.ref (ad 0), .int x1, .int x2, .int x3] S r S' := by
  refine km_z_in (cc := cX5_canSell) (nL := 4) hEE (by decide) rfl (Nat.le_of_ble_eq_true rfl) ?_
  intro p e s m below meth c A H ls C hP hD hS hl
  have C : km_C p s m _ meth c cX5_canSell 4 RX5 wsX5_canSell (some .boolean) D (mw_t cy) E A := C
  obtain ⟨⟨hx, hb, hml, hown, hts⟩, hr, hlk, hK, hA, hE, hEE⟩ := id C
  have hl : lv_has ls 4 [(0, .ref (ad 0)), (1, .int x1), (2, .int x2), (3, .int x3)] := hl
  unfold fX5_canSell at h
  refine lv_aload_n hx hb dX5_canSell_0 rfl (lv_at hl 0 rfl) ?_
  refine lv_iload_n hx hb dX5_canSell_1 rfl (lv_at hl 1 rfl) ?_
  obtain ⟨r_2, S_3, hc_1, h⟩ := ob_2s h
  refine km_cVz (As := [.int x1]) (rest := []) C (kX5_isHome hEE hc_1) (cwV 1 hts gX5_canSell_X5_isHome rfl rfl rfl (by decide +kernel) ⟨(Nat.le_of_ble_eq_true rfl), (Nat.le_of_ble_eq_true rfl)⟩) mw_M rfl rfl rfl hP hD hS hl.1 rfl (Nat.le_of_ble_eq_true rfl) dX5_canSell_2 (fun H locs hP hD hS hz_4 => ?_)
  refine lv_if_eq (tgt := 40) hx hb dX5_canSell_5 (by decide) (fun c_5 => ?_) (fun c_5 => ?_)
  · have h := ob_t c_5 h
    refine lv_iconst (v := 0) hx hb dX5_canSell_40 (by decide) ?_
    obtain ⟨rfl, rfl⟩ := ob_w h
    exact km_zret C (by decide) hP hD hS dX5_canSell_41
  · have h := ob_f c_5 h
    refine lv_aload_n hx hb dX5_canSell_8 rfl (lv_at hl 0 rfl) ?_
    refine lv_iload_n hx hb dX5_canSell_9 rfl (lv_at hl 2 rfl) ?_
    obtain ⟨r_7, S_8, hc_6, h⟩ := ob_2s h
    refine km_cVz (As := [.int x2]) (rest := []) C (kX5_isMonth hEE hc_6) (cwV 1 hts gX5_canSell_X5_isMonth rfl rfl rfl (by decide +kernel) ⟨(Nat.le_of_ble_eq_true rfl), (Nat.le_of_ble_eq_true rfl)⟩) mw_M rfl rfl rfl hP hD hS hl.1 rfl (Nat.le_of_ble_eq_true rfl) dX5_canSell_10 (fun H locs hP hD hS hz_9 => ?_)
    refine lv_if_eq (tgt := 40) hx hb dX5_canSell_13 (by decide) (fun c_10 => ?_) (fun c_10 => ?_)
    · have h := ob_t c_10 h
      refine lv_iconst (v := 0) hx hb dX5_canSell_40 (by decide) ?_
      obtain ⟨rfl, rfl⟩ := ob_w h
      exact km_zret C (by decide) hP hD hS dX5_canSell_41
    · have h := ob_f c_10 h
      refine lv_aload_n hx hb dX5_canSell_16 rfl (lv_at hl 0 rfl) ?_
      refine lv_iload_n hx hb dX5_canSell_17 rfl (lv_at hl 1 rfl) ?_
      refine lv_iload_n hx hb dX5_canSell_18 rfl (lv_at hl 2 rfl) ?_
      obtain ⟨r_12, S_13, hc_11, h⟩ := ob_2s h
      refine km_cVz (As := [.int x1, .int x2]) (rest := []) C (kX5_isSold hEE hc_11) (cwV 2 hts gX5_canSell_X5_isSold rfl rfl rfl (by decide +kernel) ⟨(Nat.le_of_ble_eq_true rfl), (Nat.le_of_ble_eq_true rfl)⟩) mw_M rfl rfl rfl hP hD hS hl.1 rfl (Nat.le_of_ble_eq_true rfl) dX5_canSell_19 (fun H locs hP hD hS hz_14 => ?_)
      refine lv_if_ne (tgt := 40) hx hb dX5_canSell_22 (by decide) (fun c_15 => ?_) (fun c_15 => ?_)
      · have h := ob_f c_15 h
        refine lv_iconst (v := 0) hx hb dX5_canSell_40 (by decide) ?_
        obtain ⟨rfl, rfl⟩ := ob_w h
        exact km_zret C (by decide) hP hD hS dX5_canSell_41
      · have h := ob_t c_15 h
        refine lv_iload_n hx hb dX5_canSell_25 rfl (lv_at hl 3 rfl) ?_
        refine lv_iconst (v := 0) hx hb dX5_canSell_26 (by decide) ?_
        refine lv_sipush (v := 999) hx hb dX5_canSell_27 (by decide) ?_
        obtain ⟨r_17, S_18, hc_16, h⟩ := ob_2s h
        refine km_cSz (As := [.int x3, .int (0 : Int32), .int (999 : Int32)]) (rest := []) C (kX5_isIn hEE hc_16) (va_cwS 3 hts gX5_canSell_X5_isIn rfl rfl rfl (by decide +kernel) ⟨(Nat.le_of_ble_eq_true rfl), (Nat.le_of_ble_eq_true rfl)⟩) rfl hP hD hS hl.1 rfl (Nat.le_of_ble_eq_true rfl) dX5_canSell_30 (fun H locs hP hD hS hz_19 => ?_)
        refine lv_if_eq (tgt := 40) hx hb dX5_canSell_33 (by decide) (fun c_20 => ?_) (fun c_20 => ?_)
        · have h := ob_t c_20 h
          refine lv_iconst (v := 0) hx hb dX5_canSell_40 (by decide) ?_
          obtain ⟨rfl, rfl⟩ := ob_w h
          exact km_zret C (by decide) hP hD hS dX5_canSell_41
        · have h := ob_f c_20 h
          refine lv_iconst (v := 1) hx hb dX5_canSell_36 (by decide) ?_
          refine lv_goto (tgt := 41) hx hb dX5_canSell_37 (by decide) ?_
          obtain ⟨rfl, rfl⟩ := ob_w h
          exact km_zret C (by decide) hP hD hS dX5_canSell_41
def fX5_revised (x1 : Int32) (x2 : Int32) (x3 : Int32) (x4 : Int32) (x5 : Int32) (S : RSt) : Option (Int64 × RSt) := (ob_2 (fX5_isMonth x4 (st_si S 0 (0 : Int32))) fun r_2 S_3 => (if r_2 = 0 then (ob_2 (fX5_refuse S_3) fun r_7 S_8 => (some (r_7.toInt64, S_8))) else (ob_2 (fX5_canSell x1 x2 x3 S_3) fun r_10 S_11 => (if r_10 = 0 then (ob_2 (fX5_refuse S_11) fun r_30 S_31 => (some (r_30.toInt64, S_31))) else (ob_2 (fX5_at x1 x2 S_11) fun r_15 S_16 => (ob_in r_15 58 (ob_1 (fX5_solves (-1 : Int32) (st_sa S_16 1 r_15.toNatClampNeg (x3 + (1 : Int32)))) fun S_20 => (ob_2 (fX5_at x1 x2 S_20) fun r_22 S_23 => (ob_in r_22 58 (ob_in x4 8 (ob_2 (fX5_lowest (st_g (st_sa S_23 1 r_22.toNatClampNeg (0 : Int32)) 2 x4.toNatClampNeg) x5 (st_sa S_23 1 r_22.toNatClampNeg (0 : Int32))) fun r_27 S_28 => (some (r_27, S_28)))))))))))))
abbrev rmX5_revised : Room := { frames := 4, cells := 0, slots := 0, locals := 92 }
theorem nf_X5_revised_f1 : Cond.fieldLink RX5 1 "RepeatIndexModel" "thrown" "I" ∈ wsX5_revised := by decide +kernel
theorem ni_X5_revised_X5 : ∀ w ∈ u_ws RX5 TX5 31, w ∈ wsX5_revised := by decide +kernel
theorem nf_X5_revised_f70 : Cond.fieldLink RX5 70 "RepeatIndexModel" "now" "[I" ∈ wsX5_revised := by decide +kernel
theorem nf_X5_revised_f107 : Cond.fieldLink RX5 107 "RepeatIndexModel" "upper" "[J" ∈ wsX5_revised := by decide +kernel
set_option maxHeartbeats 4000000 in
set_option maxRecDepth 100000 in
theorem kX5_revised {l : Launch} {D : va_G} {cy : Nat → ClassId} {ad : Nat → Nat} {E : ke_T} (hEE : km_E E) {x1 : Int32} {x2 : Int32} {x3 : Int32} {x4 : Int32} {x5 : Int32} {S : RSt} {r : Int64} {S' : RSt} (h : fX5_revised x1 x2 x3 x4 x5 S = some (r, S')) : km_l l D (mw_t cy) (mw_w cy ad) E yX5_revised wsX5_revised rmX5_revised [.ref (ad 0), .int x1, .int x2, .int x3, .int x4, .int x5] S r S' := by
  refine km_l_in (cc := cX5_revised) (nL := 6) hEE (by decide) rfl (Nat.le_of_ble_eq_true rfl) ?_
  intro p e s m below meth c A H ls C hP hD hS hl
  have C : km_C p s m _ meth c cX5_revised 6 RX5 wsX5_revised (some .long) D (mw_t cy) E A := C
  obtain ⟨⟨hx, hb, hml, hown, hts⟩, hr, hlk, hK, hA, hE, hEE⟩ := id C
  have hl : lv_has ls 6 [(0, .ref (ad 0)), (1, .int x1), (2, .int x2), (3, .int x3), (4, .int x4), (5, .int x5)] := hl
  unfold fX5_revised at h
  refine lv_aload_n hx hb dX5_revised_0 rfl (lv_at hl 0 rfl) ?_
  refine lv_iconst (v := 0) hx hb dX5_revised_1 (by decide) ?_
  refine va_put (D := D) (ci := 5) (v := .int (0 : Int32)) (ty := .int) (C := RX5) (T := TX5) (N := 31) hx hb hts ni_X5_revised_X5 tyX5 tyX5_ok nmX5 hown hK hP hD hS 0 mw_M rfl 0 (by decide) (hts _ nf_X5_revised_f1) (fun _ h9 => h9) rfl (by decide +kernel) rfl rfl (Nat.le_of_ble_eq_true rfl) dX5_revised_2 (fun H locs hP hD hS => ?_)
  have hP := st_ps mw_s_thrown hP
  have hD := st_ds mw_s_thrown hD
  refine lv_aload_n hx hb dX5_revised_5 rfl (lv_at hl 0 rfl) ?_
  refine lv_iload hx hb dX5_revised_6 (lv_at hl 4 rfl) ?_
  obtain ⟨r_2, S_3, hc_1, h⟩ := ob_2s h
  refine km_cVz (As := [.int x4]) (rest := []) C (kX5_isMonth hEE hc_1) (cwV 1 hts gX5_revised_X5_isMonth rfl rfl rfl (by decide +kernel) ⟨(Nat.le_of_ble_eq_true rfl), (Nat.le_of_ble_eq_true rfl)⟩) mw_M rfl rfl rfl hP hD hS hl.1 rfl (Nat.le_of_ble_eq_true rfl) dX5_revised_8 (fun H locs hP hD hS hz_4 => ?_)
  refine lv_if_eq (tgt := 24) hx hb dX5_revised_11 (by decide) (fun c_5 => ?_) (fun c_5 => ?_)
  · have h := ob_t c_5 h
    refine lv_aload_n hx hb dX5_revised_24 rfl (lv_at hl 0 rfl) ?_
    obtain ⟨r_7, S_8, hc_6, h⟩ := ob_2s h
    refine km_cVi (As := []) (rest := []) C (kX5_refuse hEE hc_6) (cwV 0 hts gX5_revised_X5_refuse rfl rfl rfl (by decide +kernel) ⟨(Nat.le_of_ble_eq_true rfl), (Nat.le_of_ble_eq_true rfl)⟩) mw_M rfl rfl rfl hP hD hS hl.1 rfl (Nat.le_of_ble_eq_true rfl) dX5_revised_25 (fun H locs hP hD hS => ?_)
    refine lv_i2l hx hb dX5_revised_28 rfl ?_
    obtain ⟨rfl, rfl⟩ := ob_w h
    exact km_lret C hP hD hS dX5_revised_29
  · have h := ob_f c_5 h
    refine lv_aload_n hx hb dX5_revised_14 rfl (lv_at hl 0 rfl) ?_
    refine lv_iload_n hx hb dX5_revised_15 rfl (lv_at hl 1 rfl) ?_
    refine lv_iload_n hx hb dX5_revised_16 rfl (lv_at hl 2 rfl) ?_
    refine lv_iload_n hx hb dX5_revised_17 rfl (lv_at hl 3 rfl) ?_
    obtain ⟨r_10, S_11, hc_9, h⟩ := ob_2s h
    refine km_cVz (As := [.int x1, .int x2, .int x3]) (rest := []) C (kX5_canSell hEE hc_9) (cwV 3 hts gX5_revised_X5_canSell rfl rfl rfl (by decide +kernel) ⟨(Nat.le_of_ble_eq_true rfl), (Nat.le_of_ble_eq_true rfl)⟩) mw_M rfl rfl rfl hP hD hS hl.1 rfl (Nat.le_of_ble_eq_true rfl) dX5_revised_18 (fun H locs hP hD hS hz_12 => ?_)
    refine lv_if_ne (tgt := 30) hx hb dX5_revised_21 (by decide) (fun c_13 => ?_) (fun c_13 => ?_)
    · have h := ob_f c_13 h
      refine lv_aload_n hx hb dX5_revised_30 rfl (lv_at hl 0 rfl) ?_
      refine va_get (D := D) (ci := 5) (v := .ref (ad 2)) (C := RX5) (T := TX5) (N := 31) hx hb hts ni_X5_revised_X5 hown hK hP 0 mw_M rfl 11 (by decide) (hts _ nf_X5_revised_f70) (fun _ h9 => h9) rfl dX5_revised_31 ?_
      refine lv_iload_n hx hb dX5_revised_34 rfl (lv_at hl 1 rfl) ?_
      refine lv_iload_n hx hb dX5_revised_35 rfl (lv_at hl 2 rfl) ?_
      obtain ⟨r_15, S_16, hc_14, h⟩ := ob_2s h
      refine km_cSi (As := [.int x1, .int x2]) (rest := [.ref (ad 2)]) C (kX5_at hEE hc_14) (va_cwS 2 hts gX5_revised_X5_at rfl rfl rfl (by decide +kernel) ⟨(Nat.le_of_ble_eq_true rfl), (Nat.le_of_ble_eq_true rfl)⟩) rfl hP hD hS hl.1 rfl (Nat.le_of_ble_eq_true rfl) dX5_revised_36 (fun H locs hP hD hS => ?_)
      refine lv_iload_n hx hb dX5_revised_39 rfl (lv_at hl 3 rfl) ?_
      refine lv_iconst (v := 1) hx hb dX5_revised_40 (by decide) ?_
      refine lv_iadd hx hb dX5_revised_41 ?_
      obtain ⟨hv_17, h⟩ := ob_in_s h
      refine va_iast hx hb hK hP hD hS 2 0 mw_now rfl hv_17 dX5_revised_42 (fun H locs hP hD hS => ?_)
      have hP := st_ps mw_s_now hP
      have hD := st_ds mw_s_now hD
      refine lv_aload_n hx hb dX5_revised_43 rfl (lv_at hl 0 rfl) ?_
      refine lv_iconst (v := -1) hx hb dX5_revised_44 (by decide) ?_
      obtain ⟨S_20, hc_18, h⟩ := ob_1s h
      refine km_cVv (As := [.int (-1 : Int32)]) (rest := []) C (kX5_solves hEE hc_18) (cwV 1 hts gX5_revised_X5_solves rfl rfl rfl (by decide +kernel) ⟨(Nat.le_of_ble_eq_true rfl), (Nat.le_of_ble_eq_true rfl)⟩) mw_M rfl rfl rfl hP hD hS hl.1 rfl (Nat.le_of_ble_eq_true rfl) dX5_revised_45 (fun H locs hP hD hS => ?_)
      refine lv_aload_n hx hb dX5_revised_48 rfl (lv_at hl 0 rfl) ?_
      refine va_get (D := D) (ci := 5) (v := .ref (ad 2)) (C := RX5) (T := TX5) (N := 31) hx hb hts ni_X5_revised_X5 hown hK hP 0 mw_M rfl 11 (by decide) (hts _ nf_X5_revised_f70) (fun _ h9 => h9) rfl dX5_revised_49 ?_
      refine lv_iload_n hx hb dX5_revised_52 rfl (lv_at hl 1 rfl) ?_
      refine lv_iload_n hx hb dX5_revised_53 rfl (lv_at hl 2 rfl) ?_
      obtain ⟨r_22, S_23, hc_21, h⟩ := ob_2s h
      refine km_cSi (As := [.int x1, .int x2]) (rest := [.ref (ad 2)]) C (kX5_at hEE hc_21) (va_cwS 2 hts gX5_revised_X5_at rfl rfl rfl (by decide +kernel) ⟨(Nat.le_of_ble_eq_true rfl), (Nat.le_of_ble_eq_true rfl)⟩) rfl hP hD hS hl.1 rfl (Nat.le_of_ble_eq_true rfl) dX5_revised_54 (fun H locs hP hD hS => ?_)
      refine lv_iconst (v := 0) hx hb dX5_revised_57 (by decide) ?_
      obtain ⟨hv_24, h⟩ := ob_in_s h
      refine va_iast hx hb hK hP hD hS 2 0 mw_now rfl hv_24 dX5_revised_58 (fun H locs hP hD hS => ?_)
      have hP := st_ps mw_s_now hP
      have hD := st_ds mw_s_now hD
      refine lv_aload_n hx hb dX5_revised_59 rfl (lv_at hl 0 rfl) ?_
      refine lv_aload_n hx hb dX5_revised_60 rfl (lv_at hl 0 rfl) ?_
      refine va_get (D := D) (ci := 5) (v := .ref (ad 14)) (C := RX5) (T := TX5) (N := 31) hx hb hts ni_X5_revised_X5 hown hK hP 0 mw_M rfl 28 (by decide) (hts _ nf_X5_revised_f107) (fun _ h9 => h9) rfl dX5_revised_61 ?_
      refine lv_iload hx hb dX5_revised_64 (lv_at hl 4 rfl) ?_
      obtain ⟨hv_25, h⟩ := ob_in_s h
      refine va_lald hx hb hK hP 14 1 mw_upper rfl hv_25 dX5_revised_66 ?_
      refine lv_iload hx hb dX5_revised_67 (lv_at hl 5 rfl) ?_
      obtain ⟨r_27, S_28, hc_26, h⟩ := ob_2s h
      refine km_cVl (As := [.long (st_g (st_sa S_23 1 r_22.toNatClampNeg (0 : Int32)) 2 x4.toNatClampNeg), .int x5]) (rest := []) C (kX5_lowest hEE hc_26) (cwV 2 hts gX5_revised_X5_lowest rfl rfl rfl (by decide +kernel) ⟨(Nat.le_of_ble_eq_true rfl), (Nat.le_of_ble_eq_true rfl)⟩) mw_M rfl rfl rfl hP hD hS hl.1 rfl (Nat.le_of_ble_eq_true rfl) dX5_revised_69 (fun H locs hP hD hS => ?_)
      obtain ⟨rfl, rfl⟩ := ob_w h
      exact km_lret C hP hD hS dX5_revised_72
    · have h := ob_t c_13 h
      refine lv_aload_n hx hb dX5_revised_24 rfl (lv_at hl 0 rfl) ?_
      obtain ⟨r_30, S_31, hc_29, h⟩ := ob_2s h
      refine km_cVi (As := []) (rest := []) C (kX5_refuse hEE hc_29) (cwV 0 hts gX5_revised_X5_refuse rfl rfl rfl (by decide +kernel) ⟨(Nat.le_of_ble_eq_true rfl), (Nat.le_of_ble_eq_true rfl)⟩) mw_M rfl rfl rfl hP hD hS hl.1 rfl (Nat.le_of_ble_eq_true rfl) dX5_revised_25 (fun H locs hP hD hS => ?_)
      refine lv_i2l hx hb dX5_revised_28 rfl ?_
      obtain ⟨rfl, rfl⟩ := ob_w h
      exact km_lret C hP hD hS dX5_revised_29
def fX5_saleFor_L2 : Nat → Int32 → Int32 → Int32 → RSt → Option ((Int32 × RSt) ⊕ ((RSt)))
  | 0, _, _, _, _ => none
  | n + 1, x1, x2, x3, S => (if x3 < 0 then (some (.inr S)) else (ob_2 (fX5_isSold x1 x3 S) fun r_3 S_4 => (if r_3 = 0 then (fX5_saleFor_L2 n x1 x2 (x3 + (-1 : Int32)) S_4) else (some (.inl (x3, S_4))))))
def fX5_saleFor_L25 : Nat → Int32 → Int32 → RSt → Option ((Int32 × RSt) ⊕ ((RSt)))
  | 0, _, _, _ => none
  | n + 1, x1, x3, S => (if (8 : Int32) ≤ x3 then (some (.inr S)) else (ob_2 (fX5_isSold x1 x3 S) fun r_17 S_18 => (if r_17 = 0 then (fX5_saleFor_L25 n x1 (x3 + (1 : Int32)) S_18) else (some (.inl (x3, S_18))))))
def fX5_saleFor (x1 : Int32) (x2 : Int32) (S : RSt) : Option (Int32 × RSt) := (ob_1 (fX5_saleFor_L2 1000 x1 x2 x2 S) fun Z_9 => ob_s2 Z_9 (ob_u2 fun o_10 S_11 => (some (o_10, S_11))) (fun S_13 => (ob_1 (fX5_saleFor_L25 1000 x1 x2 S_13) fun Z_23 => ob_s2 Z_23 (ob_u2 fun o_24 S_25 => (some (o_24, S_25))) (fun S_27 => (some ((-1 : Int32), S_27))))))
abbrev rmX5_saleFor : Room := { frames := 2, cells := 0, slots := 0, locals := 43 }
set_option maxHeartbeats 4000000 in
set_option maxRecDepth 100000 in
theorem kX5_saleFor_L2 {l : Launch} {D : va_G} {cy : Nat → ClassId} {ad : Nat → Nat} {E : ke_T} {p : Program} {e : Env} {s : State} {m : MethodId} {args : Array Value} {below : List Frame} {meth : Method} {c : Code} {A : Nat → Prop} {Q : State → Prop} (C : km_C p s m args meth c cX5_saleFor 4 RX5 wsX5_saleFor (some .int) D (mw_t cy) E A) : ∀ (n : Nat) (x1 : Int32) (x2 : Int32) (x3 : Int32) (S : RSt) (Z : (Int32 × RSt) ⊕ ((RSt))) (h : fX5_saleFor_L2 n x1 x2 x3 S = some Z) {H : Heap} {locs : List Loc} {ls : Array Slot} (hP : va_P D vwCl ((mw_w cy ad) S) H) (hD : va_D A ((mw_w cy ad) S)) (hS : va_S A s.heap H locs) (hl : lv_has ls 4 [(0, .ref (ad 0)), (1, .int x1), (2, .int x2), (3, .int x3)]) (kx0 : ∀ (o3 : Int32) (S' : RSt), Z = .inl (o3, S') → ∀ (H : Heap) (locs : List Loc) (ls : Array Slot), va_P D vwCl ((mw_w cy ad) S') H → va_D A ((mw_w cy ad) S') → va_S A s.heap H locs → lv_has ls 4 [(3, .int o3)] → W p l e rmX5_saleFor s m args below meth c H locs 0 0 Q (F0 m 15 ls [])) (kx1 : ∀ (S' : RSt), Z = .inr S' → ∀ (H : Heap) (locs : List Loc) (ls : Array Slot), va_P D vwCl ((mw_w cy ad) S') H → va_D A ((mw_w cy ad) S') → va_S A s.heap H locs → lv_has ls 4 [(0, .ref (ad 0)), (1, .int x1), (2, .int x2)] → W p l e rmX5_saleFor s m args below meth c H locs 0 0 Q (F0 m 23 ls [])), W p l e rmX5_saleFor s m args below meth c H locs 0 0 Q (F0 m 2 ls []) := by
  obtain ⟨⟨hx, hb, hml, hown, hts⟩, hr, hlk, hK, hA, hE, hEE⟩ := id C
  intro n
  induction n with
  | zero =>
    intro x1 x2 x3 S Z h
    rw [fX5_saleFor_L2] at h
    cases h
  | succ n ih =>
    intro x1 x2 x3 S Z h H locs ls hP hD hS hl kx0 kx1
    rw [fX5_saleFor_L2] at h
    refine lv_iload_n hx hb dX5_saleFor_2 rfl (lv_at hl 3 rfl) ?_
    refine lv_if_lt (tgt := 23) hx hb dX5_saleFor_3 (by decide) (fun c_1 => ?_) (fun c_1 => ?_)
    · have h := ob_t c_1 h
      exact kx1 _ (ob_v h).symm _ _ _ hP hD hS (lv_sub hl [0, 1, 2] rfl)
    · have h := ob_f c_1 h
      refine lv_aload_n hx hb dX5_saleFor_6 rfl (lv_at hl 0 rfl) ?_
      refine lv_iload_n hx hb dX5_saleFor_7 rfl (lv_at hl 1 rfl) ?_
      refine lv_iload_n hx hb dX5_saleFor_8 rfl (lv_at hl 3 rfl) ?_
      obtain ⟨r_3, S_4, hc_2, h⟩ := ob_2s h
      refine km_cVz (As := [.int x1, .int x3]) (rest := []) C (kX5_isSold hEE hc_2) (cwV 2 hts gX5_saleFor_X5_isSold rfl rfl rfl (by decide +kernel) ⟨(Nat.le_of_ble_eq_true rfl), (Nat.le_of_ble_eq_true rfl)⟩) mw_M rfl rfl rfl hP hD hS hl.1 rfl (Nat.le_of_ble_eq_true rfl) dX5_saleFor_9 (fun H locs hP hD hS hz_5 => ?_)
      refine lv_if_eq (tgt := 17) hx hb dX5_saleFor_12 (by decide) (fun c_6 => ?_) (fun c_6 => ?_)
      · have h := ob_t c_6 h
        refine lv_iinc (v := x3 + (-1 : Int32)) (lv' := [(3, .int (x3 + (-1 : Int32))), (0, .ref (ad 0)), (1, .int x1), (2, .int x2)]) hx hb dX5_saleFor_17 hl (k := 3) rfl (congrArg (fun z => x3 + z) (by decide)) (by decide) rfl (fun ls hl => ?_)
        refine lv_goto (tgt := 2) hx hb dX5_saleFor_20 (by decide) ?_
        exact ih _ _ _ _ _ h hP hD hS (lv_sub hl [1, 2, 3, 0] rfl) kx0 kx1
      · have h := ob_f c_6 h
        exact kx0 _ _ (ob_v h).symm _ _ _ hP hD hS (lv_sub hl [3] rfl)
set_option maxHeartbeats 4000000 in
set_option maxRecDepth 100000 in
theorem kX5_saleFor_L25 {l : Launch} {D : va_G} {cy : Nat → ClassId} {ad : Nat → Nat} {E : ke_T} {p : Program} {e : Env} {s : State} {m : MethodId} {args : Array Value} {below : List Frame} {meth : Method} {c : Code} {A : Nat → Prop} {Q : State → Prop} (C : km_C p s m args meth c cX5_saleFor 4 RX5 wsX5_saleFor (some .int) D (mw_t cy) E A) : ∀ (n : Nat) (x1 : Int32) (x3 : Int32) (S : RSt) (Z : (Int32 × RSt) ⊕ ((RSt))) (h : fX5_saleFor_L25 n x1 x3 S = some Z) {H : Heap} {locs : List Loc} {ls : Array Slot} (hP : va_P D vwCl ((mw_w cy ad) S) H) (hD : va_D A ((mw_w cy ad) S)) (hS : va_S A s.heap H locs) (hl : lv_has ls 4 [(0, .ref (ad 0)), (1, .int x1), (3, .int x3)]) (kx0 : ∀ (o3 : Int32) (S' : RSt), Z = .inl (o3, S') → ∀ (H : Heap) (locs : List Loc) (ls : Array Slot), va_P D vwCl ((mw_w cy ad) S') H → va_D A ((mw_w cy ad) S') → va_S A s.heap H locs → lv_has ls 4 [(3, .int o3)] → W p l e rmX5_saleFor s m args below meth c H locs 0 0 Q (F0 m 40 ls [])) (kx1 : ∀ (S' : RSt), Z = .inr S' → ∀ (H : Heap) (locs : List Loc) (ls : Array Slot), va_P D vwCl ((mw_w cy ad) S') H → va_D A ((mw_w cy ad) S') → va_S A s.heap H locs → lv_has ls 4 [] → W p l e rmX5_saleFor s m args below meth c H locs 0 0 Q (F0 m 48 ls [])), W p l e rmX5_saleFor s m args below meth c H locs 0 0 Q (F0 m 25 ls []) := by
  obtain ⟨⟨hx, hb, hml, hown, hts⟩, hr, hlk, hK, hA, hE, hEE⟩ := id C
  intro n
  induction n with
  | zero =>
    intro x1 x3 S Z h
    rw [fX5_saleFor_L25] at h
    cases h
  | succ n ih =>
    intro x1 x3 S Z h H locs ls hP hD hS hl kx0 kx1
    rw [fX5_saleFor_L25] at h
    refine lv_iload_n hx hb dX5_saleFor_25 rfl (lv_at hl 2 rfl) ?_
    refine lv_bipush (v := 8) hx hb dX5_saleFor_26 (by decide) ?_
    refine lv_icmp_ge (tgt := 48) hx hb dX5_saleFor_28 (by decide) (fun c_15 => ?_) (fun c_15 => ?_)
    · have h := ob_t c_15 h
      exact kx1 _ (ob_v h).symm _ _ _ hP hD hS (lv_sub hl [] rfl)
    · have h := ob_f c_15 h
      refine lv_aload_n hx hb dX5_saleFor_31 rfl (lv_at hl 0 rfl) ?_
      refine lv_iload_n hx hb dX5_saleFor_32 rfl (lv_at hl 1 rfl) ?_
      refine lv_iload_n hx hb dX5_saleFor_33 rfl (lv_at hl 2 rfl) ?_
      obtain ⟨r_17, S_18, hc_16, h⟩ := ob_2s h
      refine km_cVz (As := [.int x1, .int x3]) (rest := []) C (kX5_isSold hEE hc_16) (cwV 2 hts gX5_saleFor_X5_isSold rfl rfl rfl (by decide +kernel) ⟨(Nat.le_of_ble_eq_true rfl), (Nat.le_of_ble_eq_true rfl)⟩) mw_M rfl rfl rfl hP hD hS hl.1 rfl (Nat.le_of_ble_eq_true rfl) dX5_saleFor_34 (fun H locs hP hD hS hz_19 => ?_)
      refine lv_if_eq (tgt := 42) hx hb dX5_saleFor_37 (by decide) (fun c_20 => ?_) (fun c_20 => ?_)
      · have h := ob_t c_20 h
        refine lv_iinc (v := x3 + (1 : Int32)) (lv' := [(3, .int (x3 + (1 : Int32))), (0, .ref (ad 0)), (1, .int x1)]) hx hb dX5_saleFor_42 hl (k := 2) rfl (congrArg (fun z => x3 + z) (by decide)) (by decide) rfl (fun ls hl => ?_)
        refine lv_goto (tgt := 25) hx hb dX5_saleFor_45 (by decide) ?_
        exact ih _ _ _ _ h hP hD hS (lv_sub hl [1, 2, 0] rfl) kx0 kx1
      · have h := ob_f c_20 h
        exact kx0 _ _ (ob_v h).symm _ _ _ hP hD hS (lv_sub hl [2] rfl)
set_option maxHeartbeats 4000000 in
set_option maxRecDepth 100000 in
theorem kX5_saleFor {l : Launch} {D : va_G} {cy : Nat → ClassId} {ad : Nat → Nat} {E : ke_T} (hEE : km_E E) {x1 : Int32} {x2 : Int32} {S : RSt} {r : Int32} {S' : RSt} (h : fX5_saleFor x1 x2 S = some (r, S')) : km_i l D (mw_t cy) (mw_w cy ad) E yX5_saleFor wsX5_saleFor rmX5_saleFor [.ref (ad 0), .int x1, .int x2] S r S' := by
  refine km_i_in (cc := cX5_saleFor) (nL := 4) hEE (by decide) rfl (Nat.le_of_ble_eq_true rfl) ?_
  intro p e s m below meth c A H ls C hP hD hS hl
  have C : km_C p s m _ meth c cX5_saleFor 4 RX5 wsX5_saleFor (some .int) D (mw_t cy) E A := C
  obtain ⟨⟨hx, hb, hml, hown, hts⟩, hr, hlk, hK, hA, hE, hEE⟩ := id C
  have hl : lv_has ls 4 [(0, .ref (ad 0)), (1, .int x1), (2, .int x2)] := hl
  unfold fX5_saleFor at h
  refine lv_iload_n hx hb dX5_saleFor_0 rfl (lv_at hl 2 rfl) ?_
  refine lv_istore_n (lv' := [(3, .int x2), (0, .ref (ad 0)), (1, .int x1), (2, .int x2)]) hx hb dX5_saleFor_1 rfl hl (by decide) rfl (fun ls hl => ?_)
  obtain ⟨Z_9, hq_7, h⟩ := ob_1s h
  refine kX5_saleFor_L2  C _ _ _ _ _ _ hq_7 hP hD hS (lv_sub hl [1, 2, 3, 0] rfl) (fun o_10 S_11 ee_12 H locs ls hP hD hS hl => ?_) (fun S_13 ee_14 H locs ls hP hD hS hl => ?_)
  · subst ee_12
    have h := ob_s2_0 h
    have h := ob_u2s h
    refine lv_iload_n hx hb dX5_saleFor_15 rfl (lv_at hl 0 rfl) ?_
    obtain ⟨rfl, rfl⟩ := ob_w h
    exact km_iret C hP hD hS dX5_saleFor_16
  · subst ee_14
    have h := ob_s2_1 h
    refine lv_iload_n hx hb dX5_saleFor_23 rfl (lv_at hl 2 rfl) ?_
    refine lv_istore_n (lv' := [(3, .int x2), (0, .ref (ad 0)), (1, .int x1), (2, .int x2)]) hx hb dX5_saleFor_24 rfl hl (by decide) rfl (fun ls hl => ?_)
    obtain ⟨Z_23, hq_21, h⟩ := ob_1s h
    refine kX5_saleFor_L25  C _ _ _ _ _ hq_21 hP hD hS (lv_sub hl [1, 2, 0] rfl) (fun o_24 S_25 ee_26 H locs ls hP hD hS hl => ?_) (fun S_27 ee_28 H locs ls hP hD hS hl => ?_)
    · subst ee_26
      have h := ob_s2_0 h
      have h := ob_u2s h
      refine lv_iload_n hx hb dX5_saleFor_40 rfl (lv_at hl 0 rfl) ?_
      obtain ⟨rfl, rfl⟩ := ob_w h
      exact km_iret C hP hD hS dX5_saleFor_41
    · subst ee_28
      have h := ob_s2_1 h
      refine lv_iconst (v := -1) hx hb dX5_saleFor_48 (by decide) ?_
      obtain ⟨rfl, rfl⟩ := ob_w h
      exact km_iret C hP hD hS dX5_saleFor_49
def fX5_worth (x1 : Int32) (x2 : Int32) (S : RSt) : Option (Int32 × RSt) := (ob_2 (fX5_isHome x1 (st_si S 0 (0 : Int32))) fun r_2 S_3 => (if r_2 = 0 then (some ((-100000 : Int32), S_3)) else (ob_2 (fX5_isMonth x2 S_3) fun r_7 S_8 => (if r_7 = 0 then (some ((-100000 : Int32), S_8)) else (ob_2 (fX5_saleFor x1 x2 S_8) fun r_12 S_13 => (ob_1 (fX5_solves (-1 : Int32) S_13) fun S_16 => (if r_12 = (-1 : Int32) then (some ((-100000 : Int32), S_16)) else (ob_in r_12 8 (ob_in x2 8 (if (st_a S_16 9 r_12.toNatClampNeg) = (st_a S_16 9 x2.toNatClampNeg) then (ob_in x2 8 (ob_in r_12 8 (ob_nz (st_j S_16 1) (ob_j (fun (vJ_24_6 : Int64) (S_25 : RSt) => (ob_2 (fX5_levelOf x1 r_12 S_25) fun r_27 S_28 => (some (r_27 + vJ_24_6.toInt32, S_28)))) fun tJ_24 => (if 0 ≤ (lg_cmp ((st_g S_16 2 x2.toNatClampNeg) - (st_g S_16 2 r_12.toNatClampNeg)) (0 : Int64)) then (tJ_24 (((st_g S_16 2 x2.toNatClampNeg) - (st_g S_16 2 r_12.toNatClampNeg)) / (st_j S_16 1)) S_16) else (ob_nz (st_j S_16 1) (if (lg_cmp (((st_g S_16 2 x2.toNatClampNeg) - (st_g S_16 2 r_12.toNatClampNeg)) - ((st_g S_16 2 x2.toNatClampNeg) - (st_g S_16 2 r_12.toNatClampNeg)) / (st_j S_16 1) * (st_j S_16 1)) (0 : Int64)) = 0 then (tJ_24 (((st_g S_16 2 x2.toNatClampNeg) - (st_g S_16 2 r_12.toNatClampNeg)) / (st_j S_16 1)) S_16) else (tJ_24 ((((st_g S_16 2 x2.toNatClampNeg) - (st_g S_16 2 r_12.toNatClampNeg)) / (st_j S_16 1)) - (1 : Int64)) S_16)))))))) else (some ((-100000 : Int32), S_16))))))))))))
abbrev rmX5_worth : Room := { frames := 4, cells := 0, slots := 0, locals := 92 }
theorem nf_X5_worth_f1 : Cond.fieldLink RX5 1 "RepeatIndexModel" "thrown" "I" ∈ wsX5_worth := by decide +kernel
theorem ni_X5_worth_X5 : ∀ w ∈ u_ws RX5 TX5 31, w ∈ wsX5_worth := by decide +kernel
theorem nf_X5_worth_c239 : Cond.constant RX5 239 (-100000) ∈ wsX5_worth := by decide +kernel
theorem nf_X5_worth_f94 : Cond.fieldLink RX5 94 "RepeatIndexModel" "part" "[I" ∈ wsX5_worth := by decide +kernel
theorem nf_X5_worth_f107 : Cond.fieldLink RX5 107 "RepeatIndexModel" "upper" "[J" ∈ wsX5_worth := by decide +kernel
theorem nf_X5_worth_f203 : Cond.fieldLink RX5 203 "RepeatIndexModel" "lower" "J" ∈ wsX5_worth := by decide +kernel
set_option maxHeartbeats 4000000 in
set_option maxRecDepth 100000 in
theorem kX5_worth {l : Launch} {D : va_G} {cy : Nat → ClassId} {ad : Nat → Nat} {E : ke_T} (hEE : km_E E) {x1 : Int32} {x2 : Int32} {S : RSt} {r : Int32} {S' : RSt} (h : fX5_worth x1 x2 S = some (r, S')) : km_i l D (mw_t cy) (mw_w cy ad) E yX5_worth wsX5_worth rmX5_worth [.ref (ad 0), .int x1, .int x2] S r S' := by
  refine km_i_in (cc := cX5_worth) (nL := 8) hEE (by decide) rfl (Nat.le_of_ble_eq_true rfl) ?_
  intro p e s m below meth c A H ls C hP hD hS hl
  have C : km_C p s m _ meth c cX5_worth 8 RX5 wsX5_worth (some .int) D (mw_t cy) E A := C
  obtain ⟨⟨hx, hb, hml, hown, hts⟩, hr, hlk, hK, hA, hE, hEE⟩ := id C
  have hl : lv_has ls 8 [(0, .ref (ad 0)), (1, .int x1), (2, .int x2)] := hl
  unfold fX5_worth at h
  refine lv_aload_n hx hb dX5_worth_0 rfl (lv_at hl 0 rfl) ?_
  refine lv_iconst (v := 0) hx hb dX5_worth_1 (by decide) ?_
  refine va_put (D := D) (ci := 5) (v := .int (0 : Int32)) (ty := .int) (C := RX5) (T := TX5) (N := 31) hx hb hts ni_X5_worth_X5 tyX5 tyX5_ok nmX5 hown hK hP hD hS 0 mw_M rfl 0 (by decide) (hts _ nf_X5_worth_f1) (fun _ h9 => h9) rfl (by decide +kernel) rfl rfl (Nat.le_of_ble_eq_true rfl) dX5_worth_2 (fun H locs hP hD hS => ?_)
  have hP := st_ps mw_s_thrown hP
  have hD := st_ds mw_s_thrown hD
  refine lv_aload_n hx hb dX5_worth_5 rfl (lv_at hl 0 rfl) ?_
  refine lv_iload_n hx hb dX5_worth_6 rfl (lv_at hl 1 rfl) ?_
  obtain ⟨r_2, S_3, hc_1, h⟩ := ob_2s h
  refine km_cVz (As := [.int x1]) (rest := []) C (kX5_isHome hEE hc_1) (cwV 1 hts gX5_worth_X5_isHome rfl rfl rfl (by decide +kernel) ⟨(Nat.le_of_ble_eq_true rfl), (Nat.le_of_ble_eq_true rfl)⟩) mw_M rfl rfl rfl hP hD hS hl.1 rfl (Nat.le_of_ble_eq_true rfl) dX5_worth_7 (fun H locs hP hD hS hz_4 => ?_)
  refine lv_if_eq (tgt := 21) hx hb dX5_worth_10 (by decide) (fun c_5 => ?_) (fun c_5 => ?_)
  · have h := ob_t c_5 h
    refine lv_ldc (v := -100000) hx hb hown (hts _ nf_X5_worth_c239) dX5_worth_21 ?_
    obtain ⟨rfl, rfl⟩ := ob_w h
    exact km_iret C hP hD hS dX5_worth_23
  · have h := ob_f c_5 h
    refine lv_aload_n hx hb dX5_worth_13 rfl (lv_at hl 0 rfl) ?_
    refine lv_iload_n hx hb dX5_worth_14 rfl (lv_at hl 2 rfl) ?_
    obtain ⟨r_7, S_8, hc_6, h⟩ := ob_2s h
    refine km_cVz (As := [.int x2]) (rest := []) C (kX5_isMonth hEE hc_6) (cwV 1 hts gX5_worth_X5_isMonth rfl rfl rfl (by decide +kernel) ⟨(Nat.le_of_ble_eq_true rfl), (Nat.le_of_ble_eq_true rfl)⟩) mw_M rfl rfl rfl hP hD hS hl.1 rfl (Nat.le_of_ble_eq_true rfl) dX5_worth_15 (fun H locs hP hD hS hz_9 => ?_)
    refine lv_if_ne (tgt := 24) hx hb dX5_worth_18 (by decide) (fun c_10 => ?_) (fun c_10 => ?_)
    · have h := ob_f c_10 h
      refine lv_aload_n hx hb dX5_worth_24 rfl (lv_at hl 0 rfl) ?_
      refine lv_iload_n hx hb dX5_worth_25 rfl (lv_at hl 1 rfl) ?_
      refine lv_iload_n hx hb dX5_worth_26 rfl (lv_at hl 2 rfl) ?_
      obtain ⟨r_12, S_13, hc_11, h⟩ := ob_2s h
      refine km_cVi (As := [.int x1, .int x2]) (rest := []) C (kX5_saleFor hEE hc_11) (cwV 2 hts gX5_worth_X5_saleFor rfl rfl rfl (by decide +kernel) ⟨(Nat.le_of_ble_eq_true rfl), (Nat.le_of_ble_eq_true rfl)⟩) mw_M rfl rfl rfl hP hD hS hl.1 rfl (Nat.le_of_ble_eq_true rfl) dX5_worth_27 (fun H locs hP hD hS => ?_)
      refine lv_istore_n (lv' := [(3, .int r_12), (0, .ref (ad 0)), (1, .int x1), (2, .int x2)]) hx hb dX5_worth_30 rfl hl (by decide) rfl (fun ls hl => ?_)
      refine lv_aload_n hx hb dX5_worth_31 rfl (lv_at hl 1 rfl) ?_
      refine lv_iconst (v := -1) hx hb dX5_worth_32 (by decide) ?_
      obtain ⟨S_16, hc_14, h⟩ := ob_1s h
      refine km_cVv (As := [.int (-1 : Int32)]) (rest := []) C (kX5_solves hEE hc_14) (cwV 1 hts gX5_worth_X5_solves rfl rfl rfl (by decide +kernel) ⟨(Nat.le_of_ble_eq_true rfl), (Nat.le_of_ble_eq_true rfl)⟩) mw_M rfl rfl rfl hP hD hS hl.1 rfl (Nat.le_of_ble_eq_true rfl) dX5_worth_33 (fun H locs hP hD hS => ?_)
      refine lv_iload_n hx hb dX5_worth_36 rfl (lv_at hl 0 rfl) ?_
      refine lv_iconst (v := -1) hx hb dX5_worth_37 (by decide) ?_
      refine lv_icmp_eq (tgt := 56) hx hb dX5_worth_38 (by decide) (fun c_17 => ?_) (fun c_17 => ?_)
      · have h := ob_t c_17 h
        refine lv_ldc (v := -100000) hx hb hown (hts _ nf_X5_worth_c239) dX5_worth_56 ?_
        obtain ⟨rfl, rfl⟩ := ob_w h
        exact km_iret C hP hD hS dX5_worth_58
      · have h := ob_f c_17 h
        refine lv_aload_n hx hb dX5_worth_41 rfl (lv_at hl 1 rfl) ?_
        refine va_get (D := D) (ci := 5) (v := .ref (ad 10)) (C := RX5) (T := TX5) (N := 31) hx hb hts ni_X5_worth_X5 hown hK hP 0 mw_M rfl 24 (by decide) (hts _ nf_X5_worth_f94) (fun _ h9 => h9) rfl dX5_worth_42 ?_
        refine lv_iload_n hx hb dX5_worth_45 rfl (lv_at hl 0 rfl) ?_
        obtain ⟨hv_18, h⟩ := ob_in_s h
        refine va_iald hx hb hK hP 10 0 mw_part rfl hv_18 dX5_worth_46 ?_
        refine lv_aload_n hx hb dX5_worth_47 rfl (lv_at hl 1 rfl) ?_
        refine va_get (D := D) (ci := 5) (v := .ref (ad 10)) (C := RX5) (T := TX5) (N := 31) hx hb hts ni_X5_worth_X5 hown hK hP 0 mw_M rfl 24 (by decide) (hts _ nf_X5_worth_f94) (fun _ h9 => h9) rfl dX5_worth_48 ?_
        refine lv_iload_n hx hb dX5_worth_51 rfl (lv_at hl 3 rfl) ?_
        obtain ⟨hv_19, h⟩ := ob_in_s h
        refine va_iald hx hb hK hP 10 0 mw_part rfl hv_19 dX5_worth_52 ?_
        refine lv_icmp_eq (tgt := 59) hx hb dX5_worth_53 (by decide) (fun c_20 => ?_) (fun c_20 => ?_)
        · have h := ob_t c_20 h
          refine lv_aload_n hx hb dX5_worth_59 rfl (lv_at hl 1 rfl) ?_
          refine va_get (D := D) (ci := 5) (v := .ref (ad 14)) (C := RX5) (T := TX5) (N := 31) hx hb hts ni_X5_worth_X5 hown hK hP 0 mw_M rfl 28 (by decide) (hts _ nf_X5_worth_f107) (fun _ h9 => h9) rfl dX5_worth_60 ?_
          refine lv_iload_n hx hb dX5_worth_63 rfl (lv_at hl 3 rfl) ?_
          obtain ⟨hv_21, h⟩ := ob_in_s h
          refine va_lald hx hb hK hP 14 1 mw_upper rfl hv_21 dX5_worth_64 ?_
          refine lv_aload_n hx hb dX5_worth_65 rfl (lv_at hl 1 rfl) ?_
          refine va_get (D := D) (ci := 5) (v := .ref (ad 14)) (C := RX5) (T := TX5) (N := 31) hx hb hts ni_X5_worth_X5 hown hK hP 0 mw_M rfl 28 (by decide) (hts _ nf_X5_worth_f107) (fun _ h9 => h9) rfl dX5_worth_66 ?_
          refine lv_iload_n hx hb dX5_worth_69 rfl (lv_at hl 0 rfl) ?_
          obtain ⟨hv_22, h⟩ := ob_in_s h
          refine va_lald hx hb hK hP 14 1 mw_upper rfl hv_22 dX5_worth_70 ?_
          refine lv_lsub hx hb dX5_worth_71 ?_
          refine lv_lstore (lv' := [(4, .long ((st_g S_16 2 x2.toNatClampNeg) - (st_g S_16 2 r_12.toNatClampNeg))), (3, .int r_12), (0, .ref (ad 0)), (1, .int x1), (2, .int x2)]) hx hb dX5_worth_72 hl (by decide) rfl (fun ls hl => ?_)
          refine lv_lload hx hb dX5_worth_74 (lv_at hl 0 rfl) ?_
          refine lv_aload_n hx hb dX5_worth_76 rfl (lv_at hl 2 rfl) ?_
          refine va_get (D := D) (ci := 5) (v := .long (st_j S_16 1)) (C := RX5) (T := TX5) (N := 31) hx hb hts ni_X5_worth_X5 hown hK hP 0 mw_M rfl 30 (by decide) (hts _ nf_X5_worth_f203) (fun _ h9 => h9) rfl dX5_worth_77 ?_
          obtain ⟨hv_23, h⟩ := ob_nz_s h
          refine lv_ldiv hx hb dX5_worth_80 hv_23 ?_
          refine lv_lstore (lv' := [(6, .long (((st_g S_16 2 x2.toNatClampNeg) - (st_g S_16 2 r_12.toNatClampNeg)) / (st_j S_16 1))), (4, .long ((st_g S_16 2 x2.toNatClampNeg) - (st_g S_16 2 r_12.toNatClampNeg))), (3, .int r_12), (0, .ref (ad 0)), (1, .int x1), (2, .int x2)]) hx hb dX5_worth_81 hl (by decide) rfl (fun ls hl => ?_)
          refine lv_lload hx hb dX5_worth_83 (lv_at hl 1 rfl) ?_
          refine lv_lconst (v := 0) hx hb dX5_worth_85 (by decide) ?_
          refine W.lcmp hx hb dX5_worth_86 ?_
          obtain ⟨tJ_24, hT_29, h⟩ := ob_js h
          have kJ_24 : ∀ (vJ_24_6 : Int64) (S_25 : RSt) (_ : tJ_24 vJ_24_6 S_25 = some (r, S')) (H : Heap) (locs : List Loc) (ls : Array Slot), va_P D vwCl ((mw_w cy ad) S_25) H → va_D A ((mw_w cy ad) S_25) → va_S A s.heap H locs → lv_has ls 8 [(0, .ref (ad 0)), (1, .int x1), (3, .int r_12), (6, .long vJ_24_6)] → W p l e rmX5_worth s m ([.ref (ad 0), .int x1, .int x2] : List Value).toArray below meth c H locs 0 0 (km_Qi below D (mw_t cy) (mw_w cy ad) A ([.ref (ad 0), .int x1, .int x2] : List Value).toArray s r S') (F0 m 108 ls []) := by
            intro vJ_24_6 S_25 h H locs ls hP hD hS hl
            rw [← hT_29] at h
            refine lv_aload_n hx hb dX5_worth_108 rfl (lv_at hl 0 rfl) ?_
            refine lv_iload_n hx hb dX5_worth_109 rfl (lv_at hl 1 rfl) ?_
            refine lv_iload_n hx hb dX5_worth_110 rfl (lv_at hl 2 rfl) ?_
            obtain ⟨r_27, S_28, hc_26, h⟩ := ob_2s h
            refine km_cVi (As := [.int x1, .int r_12]) (rest := []) C (kX5_levelOf hEE hc_26) (cwV 2 hts gX5_worth_X5_levelOf rfl rfl rfl (by decide +kernel) ⟨(Nat.le_of_ble_eq_true rfl), (Nat.le_of_ble_eq_true rfl)⟩) mw_M rfl rfl rfl hP hD hS hl.1 rfl (Nat.le_of_ble_eq_true rfl) dX5_worth_111 (fun H locs hP hD hS => ?_)
            refine lv_lload hx hb dX5_worth_114 (lv_at hl 3 rfl) ?_
            refine lv_l2i hx hb dX5_worth_116 rfl ?_
            refine lv_iadd hx hb dX5_worth_117 ?_
            obtain ⟨rfl, rfl⟩ := ob_w h
            exact km_iret C hP hD hS dX5_worth_118
          refine lv_if_ge (tgt := 108) hx hb dX5_worth_87 (by decide) (fun c_30 => ?_) (fun c_30 => ?_)
          · have h := ob_t c_30 h
            exact kJ_24 _ _ h _ _ _ hP hD hS (lv_sub hl [3, 4, 2, 0] rfl)
          · have h := ob_f c_30 h
            refine lv_lload hx hb dX5_worth_90 (lv_at hl 1 rfl) ?_
            refine lv_aload_n hx hb dX5_worth_92 rfl (lv_at hl 3 rfl) ?_
            refine va_get (D := D) (ci := 5) (v := .long (st_j S_16 1)) (C := RX5) (T := TX5) (N := 31) hx hb hts ni_X5_worth_X5 hown hK hP 0 mw_M rfl 30 (by decide) (hts _ nf_X5_worth_f203) (fun _ h9 => h9) rfl dX5_worth_93 ?_
            obtain ⟨hv_31, h⟩ := ob_nz_s h
            refine lv_lrem hx hb dX5_worth_96 hv_31 ?_
            refine lv_lconst (v := 0) hx hb dX5_worth_97 (by decide) ?_
            refine W.lcmp hx hb dX5_worth_98 ?_
            refine lv_if_eq (tgt := 108) hx hb dX5_worth_99 (by decide) (fun c_32 => ?_) (fun c_32 => ?_)
            · have h := ob_t c_32 h
              exact kJ_24 _ _ h _ _ _ hP hD hS (lv_sub hl [3, 4, 2, 0] rfl)
            · have h := ob_f c_32 h
              refine lv_lload hx hb dX5_worth_102 (lv_at hl 0 rfl) ?_
              refine lv_lconst (v := 1) hx hb dX5_worth_104 (by decide) ?_
              refine lv_lsub hx hb dX5_worth_105 ?_
              refine lv_lstore (lv' := [(6, .long ((((st_g S_16 2 x2.toNatClampNeg) - (st_g S_16 2 r_12.toNatClampNeg)) / (st_j S_16 1)) - (1 : Int64))), (4, .long ((st_g S_16 2 x2.toNatClampNeg) - (st_g S_16 2 r_12.toNatClampNeg))), (3, .int r_12), (0, .ref (ad 0)), (1, .int x1), (2, .int x2)]) hx hb dX5_worth_106 hl (by decide) rfl (fun ls hl => ?_)
              exact kJ_24 _ _ h _ _ _ hP hD hS (lv_sub hl [3, 4, 2, 0] rfl)
        · have h := ob_f c_20 h
          refine lv_ldc (v := -100000) hx hb hown (hts _ nf_X5_worth_c239) dX5_worth_56 ?_
          obtain ⟨rfl, rfl⟩ := ob_w h
          exact km_iret C hP hD hS dX5_worth_58
    · have h := ob_t c_10 h
      refine lv_ldc (v := -100000) hx hb hown (hts _ nf_X5_worth_c239) dX5_worth_21 ?_
      obtain ⟨rfl, rfl⟩ := ob_w h
      exact km_iret C hP hD hS dX5_worth_23
def fX5_snap_L51 : Nat → Int32 → RSt → Option (RSt)
  | 0, _, _ => none
  | n + 1, x1, S => (if (58 : Int32) ≤ x1 then (some S) else (ob_in x1 58 (ob_in (((58 : Int32) * (st_i S 9)) + x1) 580 (fX5_snap_L51 n (x1 + (1 : Int32)) (st_sa S 3 (((58 : Int32) * (st_i S 9)) + x1).toNatClampNeg (st_a S 1 x1.toNatClampNeg))))))
def fX5_snap_L11 : Nat → Int32 → RSt → Option (RSt)
  | 0, _, _ => none
  | n + 1, x1, S => (if (522 : Int32) ≤ x1 then (some S) else (ob_in (x1 + (58 : Int32)) 580 (ob_in x1 580 (fX5_snap_L11 n (x1 + (1 : Int32)) (st_sa S 3 x1.toNatClampNeg (st_a S 3 (x1 + (58 : Int32)).toNatClampNeg))))))
def fX5_snap (S : RSt) : Option (RSt) := (ob_j (fun (S_2 : RSt) => (ob_1 (fX5_snap_L51 1000 (0 : Int32) S_2) fun S_7 => (some (st_si S_7 9 ((st_i S_7 9) + (1 : Int32)))))) fun tJ_1 => (if (st_i S 9) = (10 : Int32) then (ob_1 (fX5_snap_L11 1000 (0 : Int32) S) fun S_14 => (tJ_1 (st_si S_14 9 ((st_i S_14 9) - (1 : Int32))))) else (tJ_1 S)))
abbrev rmX5_snap : Room := { frames := 0, cells := 0, slots := 0, locals := 0 }
theorem nf_X5_snap_f162 : Cond.fieldLink RX5 162 "RepeatIndexModel" "snapMany" "I" ∈ wsX5_snap := by decide +kernel
theorem ni_X5_snap_X5 : ∀ w ∈ u_ws RX5 TX5 31, w ∈ wsX5_snap := by decide +kernel
theorem nf_X5_snap_f76 : Cond.fieldLink RX5 76 "RepeatIndexModel" "snaps" "[I" ∈ wsX5_snap := by decide +kernel
theorem nf_X5_snap_f70 : Cond.fieldLink RX5 70 "RepeatIndexModel" "now" "[I" ∈ wsX5_snap := by decide +kernel
set_option maxHeartbeats 4000000 in
set_option maxRecDepth 100000 in
theorem kX5_snap_L51 {l : Launch} {D : va_G} {cy : Nat → ClassId} {ad : Nat → Nat} {E : ke_T} {p : Program} {e : Env} {s : State} {m : MethodId} {args : Array Value} {below : List Frame} {meth : Method} {c : Code} {A : Nat → Prop} {Q : State → Prop} (C : km_C p s m args meth c cX5_snap 2 RX5 wsX5_snap none D (mw_t cy) E A) : ∀ (n : Nat) (x1 : Int32) (S : RSt) (S' : RSt) (h : fX5_snap_L51 n x1 S = some S') {H : Heap} {locs : List Loc} {ls : Array Slot} (hP : va_P D vwCl ((mw_w cy ad) S) H) (hD : va_D A ((mw_w cy ad) S)) (hS : va_S A s.heap H locs) (hl : lv_has ls 2 [(0, .ref (ad 0)), (1, .int x1)]) (kx0 : ∀ (H : Heap) (locs : List Loc) (ls : Array Slot), va_P D vwCl ((mw_w cy ad) S') H → va_D A ((mw_w cy ad) S') → va_S A s.heap H locs → lv_has ls 2 [(0, .ref (ad 0))] → W p l e rmX5_snap s m args below meth c H locs 0 0 Q (F0 m 83 ls [])), W p l e rmX5_snap s m args below meth c H locs 0 0 Q (F0 m 51 ls []) := by
  obtain ⟨⟨hx, hb, hml, hown, hts⟩, hr, hlk, hK, hA, hE, hEE⟩ := id C
  intro n
  induction n with
  | zero =>
    intro x1 S S' h
    rw [fX5_snap_L51] at h
    cases h
  | succ n ih =>
    intro x1 S S' h H locs ls hP hD hS hl kx0
    rw [fX5_snap_L51] at h
    refine lv_iload_n hx hb dX5_snap_51 rfl (lv_at hl 1 rfl) ?_
    refine lv_bipush (v := 58) hx hb dX5_snap_52 (by decide) ?_
    refine lv_icmp_ge (tgt := 83) hx hb dX5_snap_54 (by decide) (fun c_3 => ?_) (fun c_3 => ?_)
    · have h := ob_t c_3 h
      cases h
      exact kx0 _ _ _ hP hD hS (lv_sub hl [0] rfl)
    · have h := ob_f c_3 h
      refine lv_aload_n hx hb dX5_snap_57 rfl (lv_at hl 0 rfl) ?_
      refine va_get (D := D) (ci := 5) (v := .ref (ad 4)) (C := RX5) (T := TX5) (N := 31) hx hb hts ni_X5_snap_X5 hown hK hP 0 mw_M rfl 13 (by decide) (hts _ nf_X5_snap_f76) (fun _ h9 => h9) rfl dX5_snap_58 ?_
      refine lv_bipush (v := 58) hx hb dX5_snap_61 (by decide) ?_
      refine lv_aload_n hx hb dX5_snap_63 rfl (lv_at hl 0 rfl) ?_
      refine va_get (D := D) (ci := 5) (v := .int (st_i S 9)) (C := RX5) (T := TX5) (N := 31) hx hb hts ni_X5_snap_X5 hown hK hP 0 mw_M rfl 14 (by decide) (hts _ nf_X5_snap_f162) (fun _ h9 => h9) rfl dX5_snap_64 ?_
      refine lv_imul hx hb dX5_snap_67 ?_
      refine lv_iload_n hx hb dX5_snap_68 rfl (lv_at hl 1 rfl) ?_
      refine lv_iadd hx hb dX5_snap_69 ?_
      refine lv_aload_n hx hb dX5_snap_70 rfl (lv_at hl 0 rfl) ?_
      refine va_get (D := D) (ci := 5) (v := .ref (ad 2)) (C := RX5) (T := TX5) (N := 31) hx hb hts ni_X5_snap_X5 hown hK hP 0 mw_M rfl 11 (by decide) (hts _ nf_X5_snap_f70) (fun _ h9 => h9) rfl dX5_snap_71 ?_
      refine lv_iload_n hx hb dX5_snap_74 rfl (lv_at hl 1 rfl) ?_
      obtain ⟨hv_4, h⟩ := ob_in_s h
      refine va_iald hx hb hK hP 2 0 mw_now rfl hv_4 dX5_snap_75 ?_
      obtain ⟨hv_5, h⟩ := ob_in_s h
      refine va_iast hx hb hK hP hD hS 4 0 mw_snaps rfl hv_5 dX5_snap_76 (fun H locs hP hD hS => ?_)
      have hP := st_ps mw_s_snaps hP
      have hD := st_ds mw_s_snaps hD
      refine lv_iinc (v := x1 + (1 : Int32)) (lv' := [(1, .int (x1 + (1 : Int32))), (0, .ref (ad 0))]) hx hb dX5_snap_77 hl (k := 1) rfl (congrArg (fun z => x1 + z) (by decide)) (by decide) rfl (fun ls hl => ?_)
      refine lv_goto (tgt := 51) hx hb dX5_snap_80 (by decide) ?_
      exact ih _ _ _ h hP hD hS (lv_sub hl [1, 0] rfl) kx0
set_option maxHeartbeats 4000000 in
set_option maxRecDepth 100000 in
theorem kX5_snap_L11 {l : Launch} {D : va_G} {cy : Nat → ClassId} {ad : Nat → Nat} {E : ke_T} {p : Program} {e : Env} {s : State} {m : MethodId} {args : Array Value} {below : List Frame} {meth : Method} {c : Code} {A : Nat → Prop} {Q : State → Prop} (C : km_C p s m args meth c cX5_snap 2 RX5 wsX5_snap none D (mw_t cy) E A) : ∀ (n : Nat) (x1 : Int32) (S : RSt) (S' : RSt) (h : fX5_snap_L11 n x1 S = some S') {H : Heap} {locs : List Loc} {ls : Array Slot} (hP : va_P D vwCl ((mw_w cy ad) S) H) (hD : va_D A ((mw_w cy ad) S)) (hS : va_S A s.heap H locs) (hl : lv_has ls 2 [(0, .ref (ad 0)), (1, .int x1)]) (kx0 : ∀ (H : Heap) (locs : List Loc) (ls : Array Slot), va_P D vwCl ((mw_w cy ad) S') H → va_D A ((mw_w cy ad) S') → va_S A s.heap H locs → lv_has ls 2 [(0, .ref (ad 0))] → W p l e rmX5_snap s m args below meth c H locs 0 0 Q (F0 m 39 ls [])), W p l e rmX5_snap s m args below meth c H locs 0 0 Q (F0 m 11 ls []) := by
  obtain ⟨⟨hx, hb, hml, hown, hts⟩, hr, hlk, hK, hA, hE, hEE⟩ := id C
  intro n
  induction n with
  | zero =>
    intro x1 S S' h
    rw [fX5_snap_L11] at h
    cases h
  | succ n ih =>
    intro x1 S S' h H locs ls hP hD hS hl kx0
    rw [fX5_snap_L11] at h
    refine lv_iload_n hx hb dX5_snap_11 rfl (lv_at hl 1 rfl) ?_
    refine lv_sipush (v := 522) hx hb dX5_snap_12 (by decide) ?_
    refine lv_icmp_ge (tgt := 39) hx hb dX5_snap_15 (by decide) (fun c_10 => ?_) (fun c_10 => ?_)
    · have h := ob_t c_10 h
      cases h
      exact kx0 _ _ _ hP hD hS (lv_sub hl [0] rfl)
    · have h := ob_f c_10 h
      refine lv_aload_n hx hb dX5_snap_18 rfl (lv_at hl 0 rfl) ?_
      refine va_get (D := D) (ci := 5) (v := .ref (ad 4)) (C := RX5) (T := TX5) (N := 31) hx hb hts ni_X5_snap_X5 hown hK hP 0 mw_M rfl 13 (by decide) (hts _ nf_X5_snap_f76) (fun _ h9 => h9) rfl dX5_snap_19 ?_
      refine lv_iload_n hx hb dX5_snap_22 rfl (lv_at hl 1 rfl) ?_
      refine lv_aload_n hx hb dX5_snap_23 rfl (lv_at hl 0 rfl) ?_
      refine va_get (D := D) (ci := 5) (v := .ref (ad 4)) (C := RX5) (T := TX5) (N := 31) hx hb hts ni_X5_snap_X5 hown hK hP 0 mw_M rfl 13 (by decide) (hts _ nf_X5_snap_f76) (fun _ h9 => h9) rfl dX5_snap_24 ?_
      refine lv_iload_n hx hb dX5_snap_27 rfl (lv_at hl 1 rfl) ?_
      refine lv_bipush (v := 58) hx hb dX5_snap_28 (by decide) ?_
      refine lv_iadd hx hb dX5_snap_30 ?_
      obtain ⟨hv_11, h⟩ := ob_in_s h
      refine va_iald hx hb hK hP 4 0 mw_snaps rfl hv_11 dX5_snap_31 ?_
      obtain ⟨hv_12, h⟩ := ob_in_s h
      refine va_iast hx hb hK hP hD hS 4 0 mw_snaps rfl hv_12 dX5_snap_32 (fun H locs hP hD hS => ?_)
      have hP := st_ps mw_s_snaps hP
      have hD := st_ds mw_s_snaps hD
      refine lv_iinc (v := x1 + (1 : Int32)) (lv' := [(1, .int (x1 + (1 : Int32))), (0, .ref (ad 0))]) hx hb dX5_snap_33 hl (k := 1) rfl (congrArg (fun z => x1 + z) (by decide)) (by decide) rfl (fun ls hl => ?_)
      refine lv_goto (tgt := 11) hx hb dX5_snap_36 (by decide) ?_
      exact ih _ _ _ h hP hD hS (lv_sub hl [1, 0] rfl) kx0
set_option maxHeartbeats 4000000 in
set_option maxRecDepth 100000 in
theorem kX5_snap {l : Launch} {D : va_G} {cy : Nat → ClassId} {ad : Nat → Nat} {E : ke_T} (hEE : km_E E) {S : RSt} {S' : RSt} (h : fX5_snap S = some S') : km_v l D (mw_t cy) (mw_w cy ad) E yX5_snap wsX5_snap rmX5_snap [.ref (ad 0)] S S' := by
  refine km_v_in (cc := cX5_snap) (nL := 2) hEE (by decide) rfl (Nat.le_of_ble_eq_true rfl) ?_
  intro p e s m below meth c A H ls C hP hD hS hl
  have C : km_C p s m _ meth c cX5_snap 2 RX5 wsX5_snap none D (mw_t cy) E A := C
  obtain ⟨⟨hx, hb, hml, hown, hts⟩, hr, hlk, hK, hA, hE, hEE⟩ := id C
  have hl : lv_has ls 2 [(0, .ref (ad 0))] := hl
  unfold fX5_snap at h
  refine lv_aload_n hx hb dX5_snap_0 rfl (lv_at hl 0 rfl) ?_
  refine va_get (D := D) (ci := 5) (v := .int (st_i S 9)) (C := RX5) (T := TX5) (N := 31) hx hb hts ni_X5_snap_X5 hown hK hP 0 mw_M rfl 14 (by decide) (hts _ nf_X5_snap_f162) (fun _ h9 => h9) rfl dX5_snap_1 ?_
  refine lv_bipush (v := 10) hx hb dX5_snap_4 (by decide) ?_
  obtain ⟨tJ_1, hT_8, h⟩ := ob_js h
  have kJ_1 : ∀ (S_2 : RSt) (_ : tJ_1 S_2 = some S') (H : Heap) (locs : List Loc) (ls : Array Slot), va_P D vwCl ((mw_w cy ad) S_2) H → va_D A ((mw_w cy ad) S_2) → va_S A s.heap H locs → lv_has ls 2 [(0, .ref (ad 0))] → W p l e rmX5_snap s m ([.ref (ad 0)] : List Value).toArray below meth c H locs 0 0 (km_Qv below D (mw_t cy) (mw_w cy ad) A ([.ref (ad 0)] : List Value).toArray s S') (F0 m 49 ls []) := by
    intro S_2 h H locs ls hP hD hS hl
    rw [← hT_8] at h
    refine lv_iconst (v := 0) hx hb dX5_snap_49 (by decide) ?_
    refine lv_istore_n (lv' := [(1, .int (0 : Int32)), (0, .ref (ad 0))]) hx hb dX5_snap_50 rfl hl (by decide) rfl (fun ls hl => ?_)
    obtain ⟨S_7, hq_6, h⟩ := ob_1s h
    refine kX5_snap_L51  C _ _ _ _ hq_6 hP hD hS (lv_sub hl [1, 0] rfl) (fun H locs ls hP hD hS hl => ?_)
    refine lv_aload_n hx hb dX5_snap_83 rfl (lv_at hl 0 rfl) ?_
    refine lv_dup hx hb dX5_snap_84 rfl ?_
    refine va_get (D := D) (ci := 5) (v := .int (st_i S_7 9)) (C := RX5) (T := TX5) (N := 31) hx hb hts ni_X5_snap_X5 hown hK hP 0 mw_M rfl 14 (by decide) (hts _ nf_X5_snap_f162) (fun _ h9 => h9) rfl dX5_snap_85 ?_
    refine lv_iconst (v := 1) hx hb dX5_snap_88 (by decide) ?_
    refine lv_iadd hx hb dX5_snap_89 ?_
    refine va_put (D := D) (ci := 5) (v := .int ((st_i S_7 9) + (1 : Int32))) (ty := .int) (C := RX5) (T := TX5) (N := 31) hx hb hts ni_X5_snap_X5 tyX5 tyX5_ok nmX5 hown hK hP hD hS 0 mw_M rfl 14 (by decide) (hts _ nf_X5_snap_f162) (fun _ h9 => h9) rfl (by decide +kernel) rfl rfl (Nat.le_of_ble_eq_true rfl) dX5_snap_90 (fun H locs hP hD hS => ?_)
    have hP := st_ps mw_s_snapMany hP
    have hD := st_ds mw_s_snapMany hD
    obtain rfl := ob_v h
    exact km_vret C hP hD hS dX5_snap_93
  refine lv_icmp_ne (tgt := 49) hx hb dX5_snap_6 (by decide) (fun c_9 => ?_) (fun c_9 => ?_)
  · have h := ob_f c_9 h
    exact kJ_1  _ h _ _ _ hP hD hS (lv_sub hl [0] rfl)
  · have h := ob_t c_9 h
    refine lv_iconst (v := 0) hx hb dX5_snap_9 (by decide) ?_
    refine lv_istore_n (lv' := [(1, .int (0 : Int32)), (0, .ref (ad 0))]) hx hb dX5_snap_10 rfl hl (by decide) rfl (fun ls hl => ?_)
    obtain ⟨S_14, hq_13, h⟩ := ob_1s h
    refine kX5_snap_L11  C _ _ _ _ hq_13 hP hD hS (lv_sub hl [1, 0] rfl) (fun H locs ls hP hD hS hl => ?_)
    refine lv_aload_n hx hb dX5_snap_39 rfl (lv_at hl 0 rfl) ?_
    refine lv_dup hx hb dX5_snap_40 rfl ?_
    refine va_get (D := D) (ci := 5) (v := .int (st_i S_14 9)) (C := RX5) (T := TX5) (N := 31) hx hb hts ni_X5_snap_X5 hown hK hP 0 mw_M rfl 14 (by decide) (hts _ nf_X5_snap_f162) (fun _ h9 => h9) rfl dX5_snap_41 ?_
    refine lv_iconst (v := 1) hx hb dX5_snap_44 (by decide) ?_
    refine lv_isub hx hb dX5_snap_45 ?_
    refine va_put (D := D) (ci := 5) (v := .int ((st_i S_14 9) - (1 : Int32))) (ty := .int) (C := RX5) (T := TX5) (N := 31) hx hb hts ni_X5_snap_X5 tyX5 tyX5_ok nmX5 hown hK hP hD hS 0 mw_M rfl 14 (by decide) (hts _ nf_X5_snap_f162) (fun _ h9 => h9) rfl (by decide +kernel) rfl rfl (Nat.le_of_ble_eq_true rfl) dX5_snap_46 (fun H locs hP hD hS => ?_)
    have hP := st_ps mw_s_snapMany hP
    have hD := st_ds mw_s_snapMany hD
    exact kJ_1  _ h _ _ _ hP hD hS (lv_sub hl [0] rfl)
def fX5_home (S : RSt) : Option (Int32 × RSt) := (ob_in (1 : Int32) 58 (if (st_a (st_si S 0 (0 : Int32)) 1 (1 : Int32).toNatClampNeg) = (6 : Int32) then (some ((-2 : Int32), (st_si S 0 (0 : Int32)))) else (ob_1 (fX5_snap (st_si S 0 (0 : Int32))) fun S_5 => (ob_in (1 : Int32) 58 (ob_in (1 : Int32) 58 (ob_in (1 : Int32) 58 (some ((st_a (st_sa S_5 1 (1 : Int32).toNatClampNeg ((st_a S_5 1 (1 : Int32).toNatClampNeg) + (1 : Int32))) 1 (1 : Int32).toNatClampNeg) - (1 : Int32), (st_sa S_5 1 (1 : Int32).toNatClampNeg ((st_a S_5 1 (1 : Int32).toNatClampNeg) + (1 : Int32)))))))))))
abbrev rmX5_home : Room := { frames := 1, cells := 0, slots := 0, locals := 21 }
theorem nf_X5_home_f1 : Cond.fieldLink RX5 1 "RepeatIndexModel" "thrown" "I" ∈ wsX5_home := by decide +kernel
theorem ni_X5_home_X5 : ∀ w ∈ u_ws RX5 TX5 31, w ∈ wsX5_home := by decide +kernel
theorem nf_X5_home_f70 : Cond.fieldLink RX5 70 "RepeatIndexModel" "now" "[I" ∈ wsX5_home := by decide +kernel
set_option maxHeartbeats 4000000 in
set_option maxRecDepth 100000 in
theorem kX5_home {l : Launch} {D : va_G} {cy : Nat → ClassId} {ad : Nat → Nat} {E : ke_T} (hEE : km_E E) {S : RSt} {r : Int32} {S' : RSt} (h : fX5_home S = some (r, S')) : km_i l D (mw_t cy) (mw_w cy ad) E yX5_home wsX5_home rmX5_home [.ref (ad 0)] S r S' := by
  refine km_i_in (cc := cX5_home) (nL := 1) hEE (by decide) rfl (Nat.le_of_ble_eq_true rfl) ?_
  intro p e s m below meth c A H ls C hP hD hS hl
  have C : km_C p s m _ meth c cX5_home 1 RX5 wsX5_home (some .int) D (mw_t cy) E A := C
  obtain ⟨⟨hx, hb, hml, hown, hts⟩, hr, hlk, hK, hA, hE, hEE⟩ := id C
  have hl : lv_has ls 1 [(0, .ref (ad 0))] := hl
  unfold fX5_home at h
  refine lv_aload_n hx hb dX5_home_0 rfl (lv_at hl 0 rfl) ?_
  refine lv_iconst (v := 0) hx hb dX5_home_1 (by decide) ?_
  refine va_put (D := D) (ci := 5) (v := .int (0 : Int32)) (ty := .int) (C := RX5) (T := TX5) (N := 31) hx hb hts ni_X5_home_X5 tyX5 tyX5_ok nmX5 hown hK hP hD hS 0 mw_M rfl 0 (by decide) (hts _ nf_X5_home_f1) (fun _ h9 => h9) rfl (by decide +kernel) rfl rfl (Nat.le_of_ble_eq_true rfl) dX5_home_2 (fun H locs hP hD hS => ?_)
  have hP := st_ps mw_s_thrown hP
  have hD := st_ds mw_s_thrown hD
  refine lv_aload_n hx hb dX5_home_5 rfl (lv_at hl 0 rfl) ?_
  refine va_get (D := D) (ci := 5) (v := .ref (ad 2)) (C := RX5) (T := TX5) (N := 31) hx hb hts ni_X5_home_X5 hown hK hP 0 mw_M rfl 11 (by decide) (hts _ nf_X5_home_f70) (fun _ h9 => h9) rfl dX5_home_6 ?_
  refine lv_iconst (v := 1) hx hb dX5_home_9 (by decide) ?_
  obtain ⟨hv_1, h⟩ := ob_in_s h
  refine va_iald hx hb hK hP 2 0 mw_now rfl hv_1 dX5_home_10 ?_
  refine lv_bipush (v := 6) hx hb dX5_home_11 (by decide) ?_
  refine lv_icmp_ne (tgt := 19) hx hb dX5_home_13 (by decide) (fun c_2 => ?_) (fun c_2 => ?_)
  · have h := ob_f c_2 h
    refine lv_aload_n hx hb dX5_home_19 rfl (lv_at hl 0 rfl) ?_
    obtain ⟨S_5, hc_3, h⟩ := ob_1s h
    refine km_cVv (As := []) (rest := []) C (kX5_snap hEE hc_3) (cwV 0 hts gX5_home_X5_snap rfl rfl rfl (by decide +kernel) ⟨(Nat.le_of_ble_eq_true rfl), (Nat.le_of_ble_eq_true rfl)⟩) mw_M rfl rfl rfl hP hD hS hl.1 rfl (Nat.le_of_ble_eq_true rfl) dX5_home_20 (fun H locs hP hD hS => ?_)
    refine lv_aload_n hx hb dX5_home_23 rfl (lv_at hl 0 rfl) ?_
    refine va_get (D := D) (ci := 5) (v := .ref (ad 2)) (C := RX5) (T := TX5) (N := 31) hx hb hts ni_X5_home_X5 hown hK hP 0 mw_M rfl 11 (by decide) (hts _ nf_X5_home_f70) (fun _ h9 => h9) rfl dX5_home_24 ?_
    refine lv_iconst (v := 1) hx hb dX5_home_27 (by decide) ?_
    refine lv_dup2_11 hx hb dX5_home_28 rfl rfl ?_
    obtain ⟨hv_6, h⟩ := ob_in_s h
    refine va_iald hx hb hK hP 2 0 mw_now rfl hv_6 dX5_home_29 ?_
    refine lv_iconst (v := 1) hx hb dX5_home_30 (by decide) ?_
    refine lv_iadd hx hb dX5_home_31 ?_
    obtain ⟨hv_7, h⟩ := ob_in_s h
    refine va_iast hx hb hK hP hD hS 2 0 mw_now rfl hv_7 dX5_home_32 (fun H locs hP hD hS => ?_)
    have hP := st_ps mw_s_now hP
    have hD := st_ds mw_s_now hD
    refine lv_aload_n hx hb dX5_home_33 rfl (lv_at hl 0 rfl) ?_
    refine va_get (D := D) (ci := 5) (v := .ref (ad 2)) (C := RX5) (T := TX5) (N := 31) hx hb hts ni_X5_home_X5 hown hK hP 0 mw_M rfl 11 (by decide) (hts _ nf_X5_home_f70) (fun _ h9 => h9) rfl dX5_home_34 ?_
    refine lv_iconst (v := 1) hx hb dX5_home_37 (by decide) ?_
    obtain ⟨hv_8, h⟩ := ob_in_s h
    refine va_iald hx hb hK hP 2 0 mw_now rfl hv_8 dX5_home_38 ?_
    refine lv_iconst (v := 1) hx hb dX5_home_39 (by decide) ?_
    refine lv_isub hx hb dX5_home_40 ?_
    obtain ⟨rfl, rfl⟩ := ob_w h
    exact km_iret C hP hD hS dX5_home_41
  · have h := ob_t c_2 h
    refine lv_bipush (v := -2) hx hb dX5_home_16 (by decide) ?_
    obtain ⟨rfl, rfl⟩ := ob_w h
    exact km_iret C hP hD hS dX5_home_18
def fX5_sale (x1 : Int32) (x2 : Int32) (x3 : Int32) (S : RSt) : Option (Int32 × RSt) := (ob_2 (fX5_canSell x1 x2 x3 (st_si S 0 (0 : Int32))) fun r_2 S_3 => (if r_2 = 0 then (some ((-1 : Int32), S_3)) else (ob_2 (fX5_sales S_3) fun r_7 S_8 => (if r_7 = (18 : Int32) then (some ((-2 : Int32), S_8)) else (ob_1 (fX5_snap S_8) fun S_12 => (ob_2 (fX5_at x1 x2 S_12) fun r_14 S_15 => (ob_in r_14 58 (ob_2 (fX5_sales (st_sa S_15 1 r_14.toNatClampNeg (x3 + (1 : Int32)))) fun r_18 S_19 => (some (r_18, S_19))))))))))
abbrev rmX5_sale : Room := { frames := 4, cells := 0, slots := 0, locals := 88 }
theorem nf_X5_sale_f1 : Cond.fieldLink RX5 1 "RepeatIndexModel" "thrown" "I" ∈ wsX5_sale := by decide +kernel
theorem ni_X5_sale_X5 : ∀ w ∈ u_ws RX5 TX5 31, w ∈ wsX5_sale := by decide +kernel
theorem nf_X5_sale_f70 : Cond.fieldLink RX5 70 "RepeatIndexModel" "now" "[I" ∈ wsX5_sale := by decide +kernel
set_option maxHeartbeats 4000000 in
set_option maxRecDepth 100000 in
theorem kX5_sale {l : Launch} {D : va_G} {cy : Nat → ClassId} {ad : Nat → Nat} {E : ke_T} (hEE : km_E E) {x1 : Int32} {x2 : Int32} {x3 : Int32} {S : RSt} {r : Int32} {S' : RSt} (h : fX5_sale x1 x2 x3 S = some (r, S')) : km_i l D (mw_t cy) (mw_w cy ad) E yX5_sale wsX5_sale rmX5_sale [.ref (ad 0), .int x1, .int x2, .int x3] S r S' := by
  refine km_i_in (cc := cX5_sale) (nL := 4) hEE (by decide) rfl (Nat.le_of_ble_eq_true rfl) ?_
  intro p e s m below meth c A H ls C hP hD hS hl
  have C : km_C p s m _ meth c cX5_sale 4 RX5 wsX5_sale (some .int) D (mw_t cy) E A := C
  obtain ⟨⟨hx, hb, hml, hown, hts⟩, hr, hlk, hK, hA, hE, hEE⟩ := id C
  have hl : lv_has ls 4 [(0, .ref (ad 0)), (1, .int x1), (2, .int x2), (3, .int x3)] := hl
  unfold fX5_sale at h
  refine lv_aload_n hx hb dX5_sale_0 rfl (lv_at hl 0 rfl) ?_
  refine lv_iconst (v := 0) hx hb dX5_sale_1 (by decide) ?_
  refine va_put (D := D) (ci := 5) (v := .int (0 : Int32)) (ty := .int) (C := RX5) (T := TX5) (N := 31) hx hb hts ni_X5_sale_X5 tyX5 tyX5_ok nmX5 hown hK hP hD hS 0 mw_M rfl 0 (by decide) (hts _ nf_X5_sale_f1) (fun _ h9 => h9) rfl (by decide +kernel) rfl rfl (Nat.le_of_ble_eq_true rfl) dX5_sale_2 (fun H locs hP hD hS => ?_)
  have hP := st_ps mw_s_thrown hP
  have hD := st_ds mw_s_thrown hD
  refine lv_aload_n hx hb dX5_sale_5 rfl (lv_at hl 0 rfl) ?_
  refine lv_iload_n hx hb dX5_sale_6 rfl (lv_at hl 1 rfl) ?_
  refine lv_iload_n hx hb dX5_sale_7 rfl (lv_at hl 2 rfl) ?_
  refine lv_iload_n hx hb dX5_sale_8 rfl (lv_at hl 3 rfl) ?_
  obtain ⟨r_2, S_3, hc_1, h⟩ := ob_2s h
  refine km_cVz (As := [.int x1, .int x2, .int x3]) (rest := []) C (kX5_canSell hEE hc_1) (cwV 3 hts gX5_sale_X5_canSell rfl rfl rfl (by decide +kernel) ⟨(Nat.le_of_ble_eq_true rfl), (Nat.le_of_ble_eq_true rfl)⟩) mw_M rfl rfl rfl hP hD hS hl.1 rfl (Nat.le_of_ble_eq_true rfl) dX5_sale_9 (fun H locs hP hD hS hz_4 => ?_)
  refine lv_if_ne (tgt := 17) hx hb dX5_sale_12 (by decide) (fun c_5 => ?_) (fun c_5 => ?_)
  · have h := ob_f c_5 h
    refine lv_aload_n hx hb dX5_sale_17 rfl (lv_at hl 0 rfl) ?_
    obtain ⟨r_7, S_8, hc_6, h⟩ := ob_2s h
    refine km_cVi (As := []) (rest := []) C (kX5_sales hEE hc_6) (cwV 0 hts gX5_sale_X5_sales rfl rfl rfl (by decide +kernel) ⟨(Nat.le_of_ble_eq_true rfl), (Nat.le_of_ble_eq_true rfl)⟩) mw_M rfl rfl rfl hP hD hS hl.1 rfl (Nat.le_of_ble_eq_true rfl) dX5_sale_18 (fun H locs hP hD hS => ?_)
    refine lv_bipush (v := 18) hx hb dX5_sale_21 (by decide) ?_
    refine lv_icmp_ne (tgt := 29) hx hb dX5_sale_23 (by decide) (fun c_9 => ?_) (fun c_9 => ?_)
    · have h := ob_f c_9 h
      refine lv_aload_n hx hb dX5_sale_29 rfl (lv_at hl 0 rfl) ?_
      obtain ⟨S_12, hc_10, h⟩ := ob_1s h
      refine km_cVv (As := []) (rest := []) C (kX5_snap hEE hc_10) (cwV 0 hts gX5_sale_X5_snap rfl rfl rfl (by decide +kernel) ⟨(Nat.le_of_ble_eq_true rfl), (Nat.le_of_ble_eq_true rfl)⟩) mw_M rfl rfl rfl hP hD hS hl.1 rfl (Nat.le_of_ble_eq_true rfl) dX5_sale_30 (fun H locs hP hD hS => ?_)
      refine lv_aload_n hx hb dX5_sale_33 rfl (lv_at hl 0 rfl) ?_
      refine va_get (D := D) (ci := 5) (v := .ref (ad 2)) (C := RX5) (T := TX5) (N := 31) hx hb hts ni_X5_sale_X5 hown hK hP 0 mw_M rfl 11 (by decide) (hts _ nf_X5_sale_f70) (fun _ h9 => h9) rfl dX5_sale_34 ?_
      refine lv_iload_n hx hb dX5_sale_37 rfl (lv_at hl 1 rfl) ?_
      refine lv_iload_n hx hb dX5_sale_38 rfl (lv_at hl 2 rfl) ?_
      obtain ⟨r_14, S_15, hc_13, h⟩ := ob_2s h
      refine km_cSi (As := [.int x1, .int x2]) (rest := [.ref (ad 2)]) C (kX5_at hEE hc_13) (va_cwS 2 hts gX5_sale_X5_at rfl rfl rfl (by decide +kernel) ⟨(Nat.le_of_ble_eq_true rfl), (Nat.le_of_ble_eq_true rfl)⟩) rfl hP hD hS hl.1 rfl (Nat.le_of_ble_eq_true rfl) dX5_sale_39 (fun H locs hP hD hS => ?_)
      refine lv_iload_n hx hb dX5_sale_42 rfl (lv_at hl 3 rfl) ?_
      refine lv_iconst (v := 1) hx hb dX5_sale_43 (by decide) ?_
      refine lv_iadd hx hb dX5_sale_44 ?_
      obtain ⟨hv_16, h⟩ := ob_in_s h
      refine va_iast hx hb hK hP hD hS 2 0 mw_now rfl hv_16 dX5_sale_45 (fun H locs hP hD hS => ?_)
      have hP := st_ps mw_s_now hP
      have hD := st_ds mw_s_now hD
      refine lv_aload_n hx hb dX5_sale_46 rfl (lv_at hl 0 rfl) ?_
      obtain ⟨r_18, S_19, hc_17, h⟩ := ob_2s h
      refine km_cVi (As := []) (rest := []) C (kX5_sales hEE hc_17) (cwV 0 hts gX5_sale_X5_sales rfl rfl rfl (by decide +kernel) ⟨(Nat.le_of_ble_eq_true rfl), (Nat.le_of_ble_eq_true rfl)⟩) mw_M rfl rfl rfl hP hD hS hl.1 rfl (Nat.le_of_ble_eq_true rfl) dX5_sale_47 (fun H locs hP hD hS => ?_)
      obtain ⟨rfl, rfl⟩ := ob_w h
      exact km_iret C hP hD hS dX5_sale_50
    · have h := ob_t c_9 h
      refine lv_bipush (v := -2) hx hb dX5_sale_26 (by decide) ?_
      obtain ⟨rfl, rfl⟩ := ob_w h
      exact km_iret C hP hD hS dX5_sale_28
  · have h := ob_t c_5 h
    refine lv_iconst (v := -1) hx hb dX5_sale_15 (by decide) ?_
    obtain ⟨rfl, rfl⟩ := ob_w h
    exact km_iret C hP hD hS dX5_sale_16
def fX5_drop (x1 : Int32) (x2 : Int32) (S : RSt) : Option (Int32 × RSt) := (ob_2 (fX5_isHome x1 (st_si S 0 (0 : Int32))) fun r_2 S_3 => (if r_2 = 0 then (some ((-1 : Int32), S_3)) else (ob_2 (fX5_isMonth x2 S_3) fun r_7 S_8 => (if r_7 = 0 then (some ((-1 : Int32), S_8)) else (ob_2 (fX5_isSold x1 x2 S_8) fun r_12 S_13 => (if r_12 = 0 then (some ((-1 : Int32), S_13)) else (ob_1 (fX5_snap S_13) fun S_18 => (ob_2 (fX5_at x1 x2 S_18) fun r_20 S_21 => (ob_in r_20 58 (ob_2 (fX5_sales (st_sa S_21 1 r_20.toNatClampNeg (0 : Int32))) fun r_24 S_25 => (some (r_24, S_25))))))))))))
abbrev rmX5_drop : Room := { frames := 4, cells := 0, slots := 0, locals := 88 }
theorem nf_X5_drop_f1 : Cond.fieldLink RX5 1 "RepeatIndexModel" "thrown" "I" ∈ wsX5_drop := by decide +kernel
theorem ni_X5_drop_X5 : ∀ w ∈ u_ws RX5 TX5 31, w ∈ wsX5_drop := by decide +kernel
theorem nf_X5_drop_f70 : Cond.fieldLink RX5 70 "RepeatIndexModel" "now" "[I" ∈ wsX5_drop := by decide +kernel
set_option maxHeartbeats 4000000 in
set_option maxRecDepth 100000 in
theorem kX5_drop {l : Launch} {D : va_G} {cy : Nat → ClassId} {ad : Nat → Nat} {E : ke_T} (hEE : km_E E) {x1 : Int32} {x2 : Int32} {S : RSt} {r : Int32} {S' : RSt} (h : fX5_drop x1 x2 S = some (r, S')) : km_i l D (mw_t cy) (mw_w cy ad) E yX5_drop wsX5_drop rmX5_drop [.ref (ad 0), .int x1, .int x2] S r S' := by
  refine km_i_in (cc := cX5_drop) (nL := 3) hEE (by decide) rfl (Nat.le_of_ble_eq_true rfl) ?_
  intro p e s m below meth c A H ls C hP hD hS hl
  have C : km_C p s m _ meth c cX5_drop 3 RX5 wsX5_drop (some .int) D (mw_t cy) E A := C
  obtain ⟨⟨hx, hb, hml, hown, hts⟩, hr, hlk, hK, hA, hE, hEE⟩ := id C
  have hl : lv_has ls 3 [(0, .ref (ad 0)), (1, .int x1), (2, .int x2)] := hl
  unfold fX5_drop at h
  refine lv_aload_n hx hb dX5_drop_0 rfl (lv_at hl 0 rfl) ?_
  refine lv_iconst (v := 0) hx hb dX5_drop_1 (by decide) ?_
  refine va_put (D := D) (ci := 5) (v := .int (0 : Int32)) (ty := .int) (C := RX5) (T := TX5) (N := 31) hx hb hts ni_X5_drop_X5 tyX5 tyX5_ok nmX5 hown hK hP hD hS 0 mw_M rfl 0 (by decide) (hts _ nf_X5_drop_f1) (fun _ h9 => h9) rfl (by decide +kernel) rfl rfl (Nat.le_of_ble_eq_true rfl) dX5_drop_2 (fun H locs hP hD hS => ?_)
  have hP := st_ps mw_s_thrown hP
  have hD := st_ds mw_s_thrown hD
  refine lv_aload_n hx hb dX5_drop_5 rfl (lv_at hl 0 rfl) ?_
  refine lv_iload_n hx hb dX5_drop_6 rfl (lv_at hl 1 rfl) ?_
  obtain ⟨r_2, S_3, hc_1, h⟩ := ob_2s h
  refine km_cVz (As := [.int x1]) (rest := []) C (kX5_isHome hEE hc_1) (cwV 1 hts gX5_drop_X5_isHome rfl rfl rfl (by decide +kernel) ⟨(Nat.le_of_ble_eq_true rfl), (Nat.le_of_ble_eq_true rfl)⟩) mw_M rfl rfl rfl hP hD hS hl.1 rfl (Nat.le_of_ble_eq_true rfl) dX5_drop_7 (fun H locs hP hD hS hz_4 => ?_)
  refine lv_if_eq (tgt := 30) hx hb dX5_drop_10 (by decide) (fun c_5 => ?_) (fun c_5 => ?_)
  · have h := ob_t c_5 h
    refine lv_iconst (v := -1) hx hb dX5_drop_30 (by decide) ?_
    obtain ⟨rfl, rfl⟩ := ob_w h
    exact km_iret C hP hD hS dX5_drop_31
  · have h := ob_f c_5 h
    refine lv_aload_n hx hb dX5_drop_13 rfl (lv_at hl 0 rfl) ?_
    refine lv_iload_n hx hb dX5_drop_14 rfl (lv_at hl 2 rfl) ?_
    obtain ⟨r_7, S_8, hc_6, h⟩ := ob_2s h
    refine km_cVz (As := [.int x2]) (rest := []) C (kX5_isMonth hEE hc_6) (cwV 1 hts gX5_drop_X5_isMonth rfl rfl rfl (by decide +kernel) ⟨(Nat.le_of_ble_eq_true rfl), (Nat.le_of_ble_eq_true rfl)⟩) mw_M rfl rfl rfl hP hD hS hl.1 rfl (Nat.le_of_ble_eq_true rfl) dX5_drop_15 (fun H locs hP hD hS hz_9 => ?_)
    refine lv_if_eq (tgt := 30) hx hb dX5_drop_18 (by decide) (fun c_10 => ?_) (fun c_10 => ?_)
    · have h := ob_t c_10 h
      refine lv_iconst (v := -1) hx hb dX5_drop_30 (by decide) ?_
      obtain ⟨rfl, rfl⟩ := ob_w h
      exact km_iret C hP hD hS dX5_drop_31
    · have h := ob_f c_10 h
      refine lv_aload_n hx hb dX5_drop_21 rfl (lv_at hl 0 rfl) ?_
      refine lv_iload_n hx hb dX5_drop_22 rfl (lv_at hl 1 rfl) ?_
      refine lv_iload_n hx hb dX5_drop_23 rfl (lv_at hl 2 rfl) ?_
      obtain ⟨r_12, S_13, hc_11, h⟩ := ob_2s h
      refine km_cVz (As := [.int x1, .int x2]) (rest := []) C (kX5_isSold hEE hc_11) (cwV 2 hts gX5_drop_X5_isSold rfl rfl rfl (by decide +kernel) ⟨(Nat.le_of_ble_eq_true rfl), (Nat.le_of_ble_eq_true rfl)⟩) mw_M rfl rfl rfl hP hD hS hl.1 rfl (Nat.le_of_ble_eq_true rfl) dX5_drop_24 (fun H locs hP hD hS hz_14 => ?_)
      refine lv_if_ne (tgt := 32) hx hb dX5_drop_27 (by decide) (fun c_15 => ?_) (fun c_15 => ?_)
      · have h := ob_f c_15 h
        refine lv_aload_n hx hb dX5_drop_32 rfl (lv_at hl 0 rfl) ?_
        obtain ⟨S_18, hc_16, h⟩ := ob_1s h
        refine km_cVv (As := []) (rest := []) C (kX5_snap hEE hc_16) (cwV 0 hts gX5_drop_X5_snap rfl rfl rfl (by decide +kernel) ⟨(Nat.le_of_ble_eq_true rfl), (Nat.le_of_ble_eq_true rfl)⟩) mw_M rfl rfl rfl hP hD hS hl.1 rfl (Nat.le_of_ble_eq_true rfl) dX5_drop_33 (fun H locs hP hD hS => ?_)
        refine lv_aload_n hx hb dX5_drop_36 rfl (lv_at hl 0 rfl) ?_
        refine va_get (D := D) (ci := 5) (v := .ref (ad 2)) (C := RX5) (T := TX5) (N := 31) hx hb hts ni_X5_drop_X5 hown hK hP 0 mw_M rfl 11 (by decide) (hts _ nf_X5_drop_f70) (fun _ h9 => h9) rfl dX5_drop_37 ?_
        refine lv_iload_n hx hb dX5_drop_40 rfl (lv_at hl 1 rfl) ?_
        refine lv_iload_n hx hb dX5_drop_41 rfl (lv_at hl 2 rfl) ?_
        obtain ⟨r_20, S_21, hc_19, h⟩ := ob_2s h
        refine km_cSi (As := [.int x1, .int x2]) (rest := [.ref (ad 2)]) C (kX5_at hEE hc_19) (va_cwS 2 hts gX5_drop_X5_at rfl rfl rfl (by decide +kernel) ⟨(Nat.le_of_ble_eq_true rfl), (Nat.le_of_ble_eq_true rfl)⟩) rfl hP hD hS hl.1 rfl (Nat.le_of_ble_eq_true rfl) dX5_drop_42 (fun H locs hP hD hS => ?_)
        refine lv_iconst (v := 0) hx hb dX5_drop_45 (by decide) ?_
        obtain ⟨hv_22, h⟩ := ob_in_s h
        refine va_iast hx hb hK hP hD hS 2 0 mw_now rfl hv_22 dX5_drop_46 (fun H locs hP hD hS => ?_)
        have hP := st_ps mw_s_now hP
        have hD := st_ds mw_s_now hD
        refine lv_aload_n hx hb dX5_drop_47 rfl (lv_at hl 0 rfl) ?_
        obtain ⟨r_24, S_25, hc_23, h⟩ := ob_2s h
        refine km_cVi (As := []) (rest := []) C (kX5_sales hEE hc_23) (cwV 0 hts gX5_drop_X5_sales rfl rfl rfl (by decide +kernel) ⟨(Nat.le_of_ble_eq_true rfl), (Nat.le_of_ble_eq_true rfl)⟩) mw_M rfl rfl rfl hP hD hS hl.1 rfl (Nat.le_of_ble_eq_true rfl) dX5_drop_48 (fun H locs hP hD hS => ?_)
        obtain ⟨rfl, rfl⟩ := ob_w h
        exact km_iret C hP hD hS dX5_drop_51
      · have h := ob_t c_15 h
        refine lv_iconst (v := -1) hx hb dX5_drop_30 (by decide) ?_
        obtain ⟨rfl, rfl⟩ := ob_w h
        exact km_iret C hP hD hS dX5_drop_31
def fX5_shift_L30 : Nat → Int32 → Int32 → Int32 → RSt → Option ((RSt) ⊕ ((RSt)))
  | 0, _, _, _, _ => none
  | n + 1, x1, x2, x3, S => (if (8 : Int32) ≤ x3 then (some (.inr S)) else (ob_2 (fX5_isSold x1 x3 S) fun r_13 S_14 => (if r_13 = 0 then (fX5_shift_L30 n x1 x2 (x3 + (1 : Int32)) S_14) else (ob_2 (fX5_levelOf x1 x3 S_14) fun r_18 S_19 => (ob_2 (fX5_isIn (r_18 + x2) (0 : Int32) (999 : Int32) S_19) fun r_21 S_22 => (if r_21 = 0 then (some (.inl S_22)) else (fX5_shift_L30 n x1 x2 (x3 + (1 : Int32)) S_22)))))))
def fX5_shift_L77 : Nat → Int32 → Int32 → Int32 → RSt → Option (RSt)
  | 0, _, _, _, _ => none
  | n + 1, x1, x2, x3, S => (if (8 : Int32) ≤ x3 then (some S) else (ob_2 (fX5_isSold x1 x3 S) fun r_37 S_38 => (if r_37 = 0 then (fX5_shift_L77 n x1 x2 (x3 + (1 : Int32)) S_38) else (ob_2 (fX5_at x1 x3 S_38) fun r_42 S_43 => (ob_in r_42 58 (ob_in r_42 58 (fX5_shift_L77 n x1 x2 (x3 + (1 : Int32)) (st_sa S_43 1 r_42.toNatClampNeg ((st_a S_43 1 r_42.toNatClampNeg) + x2)))))))))
def fX5_shift (x1 : Int32) (x2 : Int32) (S : RSt) : Option (Int32 × RSt) := (ob_2 (fX5_isHome x1 (st_si S 0 (0 : Int32))) fun r_2 S_3 => (if r_2 = 0 then (some ((-1 : Int32), S_3)) else (ob_2 (fX5_isIn x2 (-999 : Int32) (999 : Int32) S_3) fun r_7 S_8 => (if r_7 = 0 then (some ((-1 : Int32), S_8)) else (ob_1 (fX5_shift_L30 1000 x1 x2 (0 : Int32) S_8) fun Z_27 => ob_s2 Z_27 (fun S_28 => (some ((-1 : Int32), S_28))) (fun S_30 => (ob_1 (fX5_snap S_30) fun S_34 => (ob_1 (fX5_shift_L77 1000 x1 x2 (0 : Int32) S_34) fun S_47 => (ob_2 (fX5_salesOf x1 S_47) fun r_49 S_50 => (some (r_49, S_50)))))))))))
abbrev rmX5_shift : Room := { frames := 3, cells := 0, slots := 0, locals := 66 }
theorem nf_X5_shift_f1 : Cond.fieldLink RX5 1 "RepeatIndexModel" "thrown" "I" ∈ wsX5_shift := by decide +kernel
theorem ni_X5_shift_X5 : ∀ w ∈ u_ws RX5 TX5 31, w ∈ wsX5_shift := by decide +kernel
theorem nf_X5_shift_f70 : Cond.fieldLink RX5 70 "RepeatIndexModel" "now" "[I" ∈ wsX5_shift := by decide +kernel
set_option maxHeartbeats 4000000 in
set_option maxRecDepth 100000 in
theorem kX5_shift_L30 {l : Launch} {D : va_G} {cy : Nat → ClassId} {ad : Nat → Nat} {E : ke_T} {p : Program} {e : Env} {s : State} {m : MethodId} {args : Array Value} {below : List Frame} {meth : Method} {c : Code} {A : Nat → Prop} {Q : State → Prop} (C : km_C p s m args meth c cX5_shift 4 RX5 wsX5_shift (some .int) D (mw_t cy) E A) : ∀ (n : Nat) (x1 : Int32) (x2 : Int32) (x3 : Int32) (S : RSt) (Z : (RSt) ⊕ ((RSt))) (h : fX5_shift_L30 n x1 x2 x3 S = some Z) {H : Heap} {locs : List Loc} {ls : Array Slot} (hP : va_P D vwCl ((mw_w cy ad) S) H) (hD : va_D A ((mw_w cy ad) S)) (hS : va_S A s.heap H locs) (hl : lv_has ls 4 [(0, .ref (ad 0)), (1, .int x1), (2, .int x2), (3, .int x3)]) (kx0 : ∀ (S' : RSt), Z = .inl S' → ∀ (H : Heap) (locs : List Loc) (ls : Array Slot), va_P D vwCl ((mw_w cy ad) S') H → va_D A ((mw_w cy ad) S') → va_S A s.heap H locs → lv_has ls 4 [] → W p l e rmX5_shift s m args below meth c H locs 0 0 Q (F0 m 63 ls [])) (kx1 : ∀ (S' : RSt), Z = .inr S' → ∀ (H : Heap) (locs : List Loc) (ls : Array Slot), va_P D vwCl ((mw_w cy ad) S') H → va_D A ((mw_w cy ad) S') → va_S A s.heap H locs → lv_has ls 4 [(0, .ref (ad 0)), (1, .int x1), (2, .int x2)] → W p l e rmX5_shift s m args below meth c H locs 0 0 Q (F0 m 71 ls [])), W p l e rmX5_shift s m args below meth c H locs 0 0 Q (F0 m 30 ls []) := by
  obtain ⟨⟨hx, hb, hml, hown, hts⟩, hr, hlk, hK, hA, hE, hEE⟩ := id C
  intro n
  induction n with
  | zero =>
    intro x1 x2 x3 S Z h
    rw [fX5_shift_L30] at h
    cases h
  | succ n ih =>
    intro x1 x2 x3 S Z h H locs ls hP hD hS hl kx0 kx1
    rw [fX5_shift_L30] at h
    refine lv_iload_n hx hb dX5_shift_30 rfl (lv_at hl 3 rfl) ?_
    refine lv_bipush (v := 8) hx hb dX5_shift_31 (by decide) ?_
    refine lv_icmp_ge (tgt := 71) hx hb dX5_shift_33 (by decide) (fun c_11 => ?_) (fun c_11 => ?_)
    · have h := ob_t c_11 h
      exact kx1 _ (ob_v h).symm _ _ _ hP hD hS (lv_sub hl [0, 1, 2] rfl)
    · have h := ob_f c_11 h
      refine lv_aload_n hx hb dX5_shift_36 rfl (lv_at hl 0 rfl) ?_
      refine lv_iload_n hx hb dX5_shift_37 rfl (lv_at hl 1 rfl) ?_
      refine lv_iload_n hx hb dX5_shift_38 rfl (lv_at hl 3 rfl) ?_
      obtain ⟨r_13, S_14, hc_12, h⟩ := ob_2s h
      refine km_cVz (As := [.int x1, .int x3]) (rest := []) C (kX5_isSold hEE hc_12) (cwV 2 hts gX5_shift_X5_isSold rfl rfl rfl (by decide +kernel) ⟨(Nat.le_of_ble_eq_true rfl), (Nat.le_of_ble_eq_true rfl)⟩) mw_M rfl rfl rfl hP hD hS hl.1 rfl (Nat.le_of_ble_eq_true rfl) dX5_shift_39 (fun H locs hP hD hS hz_15 => ?_)
      refine lv_if_eq (tgt := 65) hx hb dX5_shift_42 (by decide) (fun c_16 => ?_) (fun c_16 => ?_)
      · have h := ob_t c_16 h
        refine lv_iinc (v := x3 + (1 : Int32)) (lv' := [(3, .int (x3 + (1 : Int32))), (0, .ref (ad 0)), (1, .int x1), (2, .int x2)]) hx hb dX5_shift_65 hl (k := 3) rfl (congrArg (fun z => x3 + z) (by decide)) (by decide) rfl (fun ls hl => ?_)
        refine lv_goto (tgt := 30) hx hb dX5_shift_68 (by decide) ?_
        exact ih _ _ _ _ _ h hP hD hS (lv_sub hl [1, 2, 3, 0] rfl) kx0 kx1
      · have h := ob_f c_16 h
        refine lv_aload_n hx hb dX5_shift_45 rfl (lv_at hl 0 rfl) ?_
        refine lv_iload_n hx hb dX5_shift_46 rfl (lv_at hl 1 rfl) ?_
        refine lv_iload_n hx hb dX5_shift_47 rfl (lv_at hl 3 rfl) ?_
        obtain ⟨r_18, S_19, hc_17, h⟩ := ob_2s h
        refine km_cVi (As := [.int x1, .int x3]) (rest := []) C (kX5_levelOf hEE hc_17) (cwV 2 hts gX5_shift_X5_levelOf rfl rfl rfl (by decide +kernel) ⟨(Nat.le_of_ble_eq_true rfl), (Nat.le_of_ble_eq_true rfl)⟩) mw_M rfl rfl rfl hP hD hS hl.1 rfl (Nat.le_of_ble_eq_true rfl) dX5_shift_48 (fun H locs hP hD hS => ?_)
        refine lv_iload_n hx hb dX5_shift_51 rfl (lv_at hl 2 rfl) ?_
        refine lv_iadd hx hb dX5_shift_52 ?_
        refine lv_iconst (v := 0) hx hb dX5_shift_53 (by decide) ?_
        refine lv_sipush (v := 999) hx hb dX5_shift_54 (by decide) ?_
        obtain ⟨r_21, S_22, hc_20, h⟩ := ob_2s h
        refine km_cSz (As := [.int (r_18 + x2), .int (0 : Int32), .int (999 : Int32)]) (rest := []) C (kX5_isIn hEE hc_20) (va_cwS 3 hts gX5_shift_X5_isIn rfl rfl rfl (by decide +kernel) ⟨(Nat.le_of_ble_eq_true rfl), (Nat.le_of_ble_eq_true rfl)⟩) rfl hP hD hS hl.1 rfl (Nat.le_of_ble_eq_true rfl) dX5_shift_57 (fun H locs hP hD hS hz_23 => ?_)
        refine lv_if_ne (tgt := 65) hx hb dX5_shift_60 (by decide) (fun c_24 => ?_) (fun c_24 => ?_)
        · have h := ob_f c_24 h
          refine lv_iinc (v := x3 + (1 : Int32)) (lv' := [(3, .int (x3 + (1 : Int32))), (0, .ref (ad 0)), (1, .int x1), (2, .int x2)]) hx hb dX5_shift_65 hl (k := 3) rfl (congrArg (fun z => x3 + z) (by decide)) (by decide) rfl (fun ls hl => ?_)
          refine lv_goto (tgt := 30) hx hb dX5_shift_68 (by decide) ?_
          exact ih _ _ _ _ _ h hP hD hS (lv_sub hl [1, 2, 3, 0] rfl) kx0 kx1
        · have h := ob_t c_24 h
          exact kx0 _ (ob_v h).symm _ _ _ hP hD hS (lv_sub hl [] rfl)
set_option maxHeartbeats 4000000 in
set_option maxRecDepth 100000 in
theorem kX5_shift_L77 {l : Launch} {D : va_G} {cy : Nat → ClassId} {ad : Nat → Nat} {E : ke_T} {p : Program} {e : Env} {s : State} {m : MethodId} {args : Array Value} {below : List Frame} {meth : Method} {c : Code} {A : Nat → Prop} {Q : State → Prop} (C : km_C p s m args meth c cX5_shift 4 RX5 wsX5_shift (some .int) D (mw_t cy) E A) : ∀ (n : Nat) (x1 : Int32) (x2 : Int32) (x3 : Int32) (S : RSt) (S' : RSt) (h : fX5_shift_L77 n x1 x2 x3 S = some S') {H : Heap} {locs : List Loc} {ls : Array Slot} (hP : va_P D vwCl ((mw_w cy ad) S) H) (hD : va_D A ((mw_w cy ad) S)) (hS : va_S A s.heap H locs) (hl : lv_has ls 4 [(0, .ref (ad 0)), (1, .int x1), (2, .int x2), (3, .int x3)]) (kx0 : ∀ (H : Heap) (locs : List Loc) (ls : Array Slot), va_P D vwCl ((mw_w cy ad) S') H → va_D A ((mw_w cy ad) S') → va_S A s.heap H locs → lv_has ls 4 [(0, .ref (ad 0)), (1, .int x1)] → W p l e rmX5_shift s m args below meth c H locs 0 0 Q (F0 m 112 ls [])), W p l e rmX5_shift s m args below meth c H locs 0 0 Q (F0 m 77 ls []) := by
  obtain ⟨⟨hx, hb, hml, hown, hts⟩, hr, hlk, hK, hA, hE, hEE⟩ := id C
  intro n
  induction n with
  | zero =>
    intro x1 x2 x3 S S' h
    rw [fX5_shift_L77] at h
    cases h
  | succ n ih =>
    intro x1 x2 x3 S S' h H locs ls hP hD hS hl kx0
    rw [fX5_shift_L77] at h
    refine lv_iload_n hx hb dX5_shift_77 rfl (lv_at hl 3 rfl) ?_
    refine lv_bipush (v := 8) hx hb dX5_shift_78 (by decide) ?_
    refine lv_icmp_ge (tgt := 112) hx hb dX5_shift_80 (by decide) (fun c_35 => ?_) (fun c_35 => ?_)
    · have h := ob_t c_35 h
      cases h
      exact kx0 _ _ _ hP hD hS (lv_sub hl [0, 1] rfl)
    · have h := ob_f c_35 h
      refine lv_aload_n hx hb dX5_shift_83 rfl (lv_at hl 0 rfl) ?_
      refine lv_iload_n hx hb dX5_shift_84 rfl (lv_at hl 1 rfl) ?_
      refine lv_iload_n hx hb dX5_shift_85 rfl (lv_at hl 3 rfl) ?_
      obtain ⟨r_37, S_38, hc_36, h⟩ := ob_2s h
      refine km_cVz (As := [.int x1, .int x3]) (rest := []) C (kX5_isSold hEE hc_36) (cwV 2 hts gX5_shift_X5_isSold rfl rfl rfl (by decide +kernel) ⟨(Nat.le_of_ble_eq_true rfl), (Nat.le_of_ble_eq_true rfl)⟩) mw_M rfl rfl rfl hP hD hS hl.1 rfl (Nat.le_of_ble_eq_true rfl) dX5_shift_86 (fun H locs hP hD hS hz_39 => ?_)
      refine lv_if_eq (tgt := 106) hx hb dX5_shift_89 (by decide) (fun c_40 => ?_) (fun c_40 => ?_)
      · have h := ob_t c_40 h
        refine lv_iinc (v := x3 + (1 : Int32)) (lv' := [(3, .int (x3 + (1 : Int32))), (0, .ref (ad 0)), (1, .int x1), (2, .int x2)]) hx hb dX5_shift_106 hl (k := 3) rfl (congrArg (fun z => x3 + z) (by decide)) (by decide) rfl (fun ls hl => ?_)
        refine lv_goto (tgt := 77) hx hb dX5_shift_109 (by decide) ?_
        exact ih _ _ _ _ _ h hP hD hS (lv_sub hl [1, 2, 3, 0] rfl) kx0
      · have h := ob_f c_40 h
        refine lv_aload_n hx hb dX5_shift_92 rfl (lv_at hl 0 rfl) ?_
        refine va_get (D := D) (ci := 5) (v := .ref (ad 2)) (C := RX5) (T := TX5) (N := 31) hx hb hts ni_X5_shift_X5 hown hK hP 0 mw_M rfl 11 (by decide) (hts _ nf_X5_shift_f70) (fun _ h9 => h9) rfl dX5_shift_93 ?_
        refine lv_iload_n hx hb dX5_shift_96 rfl (lv_at hl 1 rfl) ?_
        refine lv_iload_n hx hb dX5_shift_97 rfl (lv_at hl 3 rfl) ?_
        obtain ⟨r_42, S_43, hc_41, h⟩ := ob_2s h
        refine km_cSi (As := [.int x1, .int x3]) (rest := [.ref (ad 2)]) C (kX5_at hEE hc_41) (va_cwS 2 hts gX5_shift_X5_at rfl rfl rfl (by decide +kernel) ⟨(Nat.le_of_ble_eq_true rfl), (Nat.le_of_ble_eq_true rfl)⟩) rfl hP hD hS hl.1 rfl (Nat.le_of_ble_eq_true rfl) dX5_shift_98 (fun H locs hP hD hS => ?_)
        refine lv_dup2_11 hx hb dX5_shift_101 rfl rfl ?_
        obtain ⟨hv_44, h⟩ := ob_in_s h
        refine va_iald hx hb hK hP 2 0 mw_now rfl hv_44 dX5_shift_102 ?_
        refine lv_iload_n hx hb dX5_shift_103 rfl (lv_at hl 2 rfl) ?_
        refine lv_iadd hx hb dX5_shift_104 ?_
        obtain ⟨hv_45, h⟩ := ob_in_s h
        refine va_iast hx hb hK hP hD hS 2 0 mw_now rfl hv_45 dX5_shift_105 (fun H locs hP hD hS => ?_)
        have hP := st_ps mw_s_now hP
        have hD := st_ds mw_s_now hD
        refine lv_iinc (v := x3 + (1 : Int32)) (lv' := [(3, .int (x3 + (1 : Int32))), (0, .ref (ad 0)), (1, .int x1), (2, .int x2)]) hx hb dX5_shift_106 hl (k := 3) rfl (congrArg (fun z => x3 + z) (by decide)) (by decide) rfl (fun ls hl => ?_)
        refine lv_goto (tgt := 77) hx hb dX5_shift_109 (by decide) ?_
        exact ih _ _ _ _ _ h hP hD hS (lv_sub hl [1, 2, 3, 0] rfl) kx0
set_option maxHeartbeats 4000000 in
set_option maxRecDepth 100000 in
theorem kX5_shift {l : Launch} {D : va_G} {cy : Nat → ClassId} {ad : Nat → Nat} {E : ke_T} (hEE : km_E E) {x1 : Int32} {x2 : Int32} {S : RSt} {r : Int32} {S' : RSt} (h : fX5_shift x1 x2 S = some (r, S')) : km_i l D (mw_t cy) (mw_w cy ad) E yX5_shift wsX5_shift rmX5_shift [.ref (ad 0), .int x1, .int x2] S r S' := by
  refine km_i_in (cc := cX5_shift) (nL := 4) hEE (by decide) rfl (Nat.le_of_ble_eq_true rfl) ?_
  intro p e s m below meth c A H ls C hP hD hS hl
  have C : km_C p s m _ meth c cX5_shift 4 RX5 wsX5_shift (some .int) D (mw_t cy) E A := C
  obtain ⟨⟨hx, hb, hml, hown, hts⟩, hr, hlk, hK, hA, hE, hEE⟩ := id C
  have hl : lv_has ls 4 [(0, .ref (ad 0)), (1, .int x1), (2, .int x2)] := hl
  unfold fX5_shift at h
  refine lv_aload_n hx hb dX5_shift_0 rfl (lv_at hl 0 rfl) ?_
  refine lv_iconst (v := 0) hx hb dX5_shift_1 (by decide) ?_
  refine va_put (D := D) (ci := 5) (v := .int (0 : Int32)) (ty := .int) (C := RX5) (T := TX5) (N := 31) hx hb hts ni_X5_shift_X5 tyX5 tyX5_ok nmX5 hown hK hP hD hS 0 mw_M rfl 0 (by decide) (hts _ nf_X5_shift_f1) (fun _ h9 => h9) rfl (by decide +kernel) rfl rfl (Nat.le_of_ble_eq_true rfl) dX5_shift_2 (fun H locs hP hD hS => ?_)
  have hP := st_ps mw_s_thrown hP
  have hD := st_ds mw_s_thrown hD
  refine lv_aload_n hx hb dX5_shift_5 rfl (lv_at hl 0 rfl) ?_
  refine lv_iload_n hx hb dX5_shift_6 rfl (lv_at hl 1 rfl) ?_
  obtain ⟨r_2, S_3, hc_1, h⟩ := ob_2s h
  refine km_cVz (As := [.int x1]) (rest := []) C (kX5_isHome hEE hc_1) (cwV 1 hts gX5_shift_X5_isHome rfl rfl rfl (by decide +kernel) ⟨(Nat.le_of_ble_eq_true rfl), (Nat.le_of_ble_eq_true rfl)⟩) mw_M rfl rfl rfl hP hD hS hl.1 rfl (Nat.le_of_ble_eq_true rfl) dX5_shift_7 (fun H locs hP hD hS hz_4 => ?_)
  refine lv_if_eq (tgt := 26) hx hb dX5_shift_10 (by decide) (fun c_5 => ?_) (fun c_5 => ?_)
  · have h := ob_t c_5 h
    refine lv_iconst (v := -1) hx hb dX5_shift_26 (by decide) ?_
    obtain ⟨rfl, rfl⟩ := ob_w h
    exact km_iret C hP hD hS dX5_shift_27
  · have h := ob_f c_5 h
    refine lv_iload_n hx hb dX5_shift_13 rfl (lv_at hl 2 rfl) ?_
    refine lv_sipush (v := -999) hx hb dX5_shift_14 (by decide) ?_
    refine lv_sipush (v := 999) hx hb dX5_shift_17 (by decide) ?_
    obtain ⟨r_7, S_8, hc_6, h⟩ := ob_2s h
    refine km_cSz (As := [.int x2, .int (-999 : Int32), .int (999 : Int32)]) (rest := []) C (kX5_isIn hEE hc_6) (va_cwS 3 hts gX5_shift_X5_isIn rfl rfl rfl (by decide +kernel) ⟨(Nat.le_of_ble_eq_true rfl), (Nat.le_of_ble_eq_true rfl)⟩) rfl hP hD hS hl.1 rfl (Nat.le_of_ble_eq_true rfl) dX5_shift_20 (fun H locs hP hD hS hz_9 => ?_)
    refine lv_if_ne (tgt := 28) hx hb dX5_shift_23 (by decide) (fun c_10 => ?_) (fun c_10 => ?_)
    · have h := ob_f c_10 h
      refine lv_iconst (v := 0) hx hb dX5_shift_28 (by decide) ?_
      refine lv_istore_n (lv' := [(3, .int (0 : Int32)), (0, .ref (ad 0)), (1, .int x1), (2, .int x2)]) hx hb dX5_shift_29 rfl hl (by decide) rfl (fun ls hl => ?_)
      obtain ⟨Z_27, hq_25, h⟩ := ob_1s h
      refine kX5_shift_L30  C _ _ _ _ _ _ hq_25 hP hD hS (lv_sub hl [1, 2, 3, 0] rfl) (fun S_28 ee_29 H locs ls hP hD hS hl => ?_) (fun S_30 ee_31 H locs ls hP hD hS hl => ?_)
      · subst ee_29
        have h := ob_s2_0 h
        refine lv_iconst (v := -1) hx hb dX5_shift_63 (by decide) ?_
        obtain ⟨rfl, rfl⟩ := ob_w h
        exact km_iret C hP hD hS dX5_shift_64
      · subst ee_31
        have h := ob_s2_1 h
        refine lv_aload_n hx hb dX5_shift_71 rfl (lv_at hl 0 rfl) ?_
        obtain ⟨S_34, hc_32, h⟩ := ob_1s h
        refine km_cVv (As := []) (rest := []) C (kX5_snap hEE hc_32) (cwV 0 hts gX5_shift_X5_snap rfl rfl rfl (by decide +kernel) ⟨(Nat.le_of_ble_eq_true rfl), (Nat.le_of_ble_eq_true rfl)⟩) mw_M rfl rfl rfl hP hD hS hl.1 rfl (Nat.le_of_ble_eq_true rfl) dX5_shift_72 (fun H locs hP hD hS => ?_)
        refine lv_iconst (v := 0) hx hb dX5_shift_75 (by decide) ?_
        refine lv_istore_n (lv' := [(3, .int (0 : Int32)), (0, .ref (ad 0)), (1, .int x1), (2, .int x2)]) hx hb dX5_shift_76 rfl hl (by decide) rfl (fun ls hl => ?_)
        obtain ⟨S_47, hq_46, h⟩ := ob_1s h
        refine kX5_shift_L77  C _ _ _ _ _ _ hq_46 hP hD hS (lv_sub hl [1, 2, 3, 0] rfl) (fun H locs ls hP hD hS hl => ?_)
        refine lv_aload_n hx hb dX5_shift_112 rfl (lv_at hl 0 rfl) ?_
        refine lv_iload_n hx hb dX5_shift_113 rfl (lv_at hl 1 rfl) ?_
        obtain ⟨r_49, S_50, hc_48, h⟩ := ob_2s h
        refine km_cVi (As := [.int x1]) (rest := []) C (kX5_salesOf hEE hc_48) (cwV 1 hts gX5_shift_X5_salesOf rfl rfl rfl (by decide +kernel) ⟨(Nat.le_of_ble_eq_true rfl), (Nat.le_of_ble_eq_true rfl)⟩) mw_M rfl rfl rfl hP hD hS hl.1 rfl (Nat.le_of_ble_eq_true rfl) dX5_shift_114 (fun H locs hP hD hS => ?_)
        obtain ⟨rfl, rfl⟩ := ob_w h
        exact km_iret C hP hD hS dX5_shift_117
    · have h := ob_t c_10 h
      refine lv_iconst (v := -1) hx hb dX5_shift_26 (by decide) ?_
      obtain ⟨rfl, rfl⟩ := ob_w h
      exact km_iret C hP hD hS dX5_shift_27
def fX5_weigh (x1 : Int32) (x2 : Int32) (S : RSt) : Option (Int32 × RSt) := (ob_in (0 : Int32) 58 (ob_2 (fX5_isIn x1 (1 : Int32) ((st_a (st_si S 0 (0 : Int32)) 1 (0 : Int32).toNatClampNeg) - (1 : Int32)) (st_si S 0 (0 : Int32))) fun r_3 S_4 => (if r_3 = 0 then (some ((-1 : Int32), S_4)) else (ob_2 (fX5_isIn x2 (0 : Int32) (3 : Int32) S_4) fun r_8 S_9 => (if r_8 = 0 then (some ((-1 : Int32), S_9)) else (ob_1 (fX5_snap S_9) fun S_14 => (ob_in ((2 : Int32) + x1) 58 (ob_in ((2 : Int32) + x1) 58 (some (st_a S_14 1 ((2 : Int32) + x1).toNatClampNeg, (st_sa S_14 1 ((2 : Int32) + x1).toNatClampNeg x2)))))))))))
abbrev rmX5_weigh : Room := { frames := 1, cells := 0, slots := 0, locals := 22 }
theorem nf_X5_weigh_f1 : Cond.fieldLink RX5 1 "RepeatIndexModel" "thrown" "I" ∈ wsX5_weigh := by decide +kernel
theorem ni_X5_weigh_X5 : ∀ w ∈ u_ws RX5 TX5 31, w ∈ wsX5_weigh := by decide +kernel
theorem nf_X5_weigh_f70 : Cond.fieldLink RX5 70 "RepeatIndexModel" "now" "[I" ∈ wsX5_weigh := by decide +kernel
set_option maxHeartbeats 4000000 in
set_option maxRecDepth 100000 in
theorem kX5_weigh {l : Launch} {D : va_G} {cy : Nat → ClassId} {ad : Nat → Nat} {E : ke_T} (hEE : km_E E) {x1 : Int32} {x2 : Int32} {S : RSt} {r : Int32} {S' : RSt} (h : fX5_weigh x1 x2 S = some (r, S')) : km_i l D (mw_t cy) (mw_w cy ad) E yX5_weigh wsX5_weigh rmX5_weigh [.ref (ad 0), .int x1, .int x2] S r S' := by
  refine km_i_in (cc := cX5_weigh) (nL := 4) hEE (by decide) rfl (Nat.le_of_ble_eq_true rfl) ?_
  intro p e s m below meth c A H ls C hP hD hS hl
  have C : km_C p s m _ meth c cX5_weigh 4 RX5 wsX5_weigh (some .int) D (mw_t cy) E A := C
  obtain ⟨⟨hx, hb, hml, hown, hts⟩, hr, hlk, hK, hA, hE, hEE⟩ := id C
  have hl : lv_has ls 4 [(0, .ref (ad 0)), (1, .int x1), (2, .int x2)] := hl
  unfold fX5_weigh at h
  refine lv_aload_n hx hb dX5_weigh_0 rfl (lv_at hl 0 rfl) ?_
  refine lv_iconst (v := 0) hx hb dX5_weigh_1 (by decide) ?_
  refine va_put (D := D) (ci := 5) (v := .int (0 : Int32)) (ty := .int) (C := RX5) (T := TX5) (N := 31) hx hb hts ni_X5_weigh_X5 tyX5 tyX5_ok nmX5 hown hK hP hD hS 0 mw_M rfl 0 (by decide) (hts _ nf_X5_weigh_f1) (fun _ h9 => h9) rfl (by decide +kernel) rfl rfl (Nat.le_of_ble_eq_true rfl) dX5_weigh_2 (fun H locs hP hD hS => ?_)
  have hP := st_ps mw_s_thrown hP
  have hD := st_ds mw_s_thrown hD
  refine lv_iload_n hx hb dX5_weigh_5 rfl (lv_at hl 1 rfl) ?_
  refine lv_iconst (v := 1) hx hb dX5_weigh_6 (by decide) ?_
  refine lv_aload_n hx hb dX5_weigh_7 rfl (lv_at hl 0 rfl) ?_
  refine va_get (D := D) (ci := 5) (v := .ref (ad 2)) (C := RX5) (T := TX5) (N := 31) hx hb hts ni_X5_weigh_X5 hown hK hP 0 mw_M rfl 11 (by decide) (hts _ nf_X5_weigh_f70) (fun _ h9 => h9) rfl dX5_weigh_8 ?_
  refine lv_iconst (v := 0) hx hb dX5_weigh_11 (by decide) ?_
  obtain ⟨hv_1, h⟩ := ob_in_s h
  refine va_iald hx hb hK hP 2 0 mw_now rfl hv_1 dX5_weigh_12 ?_
  refine lv_iconst (v := 1) hx hb dX5_weigh_13 (by decide) ?_
  refine lv_isub hx hb dX5_weigh_14 ?_
  obtain ⟨r_3, S_4, hc_2, h⟩ := ob_2s h
  refine km_cSz (As := [.int x1, .int (1 : Int32), .int ((st_a (st_si S 0 (0 : Int32)) 1 (0 : Int32).toNatClampNeg) - (1 : Int32))]) (rest := []) C (kX5_isIn hEE hc_2) (va_cwS 3 hts gX5_weigh_X5_isIn rfl rfl rfl (by decide +kernel) ⟨(Nat.le_of_ble_eq_true rfl), (Nat.le_of_ble_eq_true rfl)⟩) rfl hP hD hS hl.1 rfl (Nat.le_of_ble_eq_true rfl) dX5_weigh_15 (fun H locs hP hD hS hz_5 => ?_)
  refine lv_if_eq (tgt := 30) hx hb dX5_weigh_18 (by decide) (fun c_6 => ?_) (fun c_6 => ?_)
  · have h := ob_t c_6 h
    refine lv_iconst (v := -1) hx hb dX5_weigh_30 (by decide) ?_
    obtain ⟨rfl, rfl⟩ := ob_w h
    exact km_iret C hP hD hS dX5_weigh_31
  · have h := ob_f c_6 h
    refine lv_iload_n hx hb dX5_weigh_21 rfl (lv_at hl 2 rfl) ?_
    refine lv_iconst (v := 0) hx hb dX5_weigh_22 (by decide) ?_
    refine lv_iconst (v := 3) hx hb dX5_weigh_23 (by decide) ?_
    obtain ⟨r_8, S_9, hc_7, h⟩ := ob_2s h
    refine km_cSz (As := [.int x2, .int (0 : Int32), .int (3 : Int32)]) (rest := []) C (kX5_isIn hEE hc_7) (va_cwS 3 hts gX5_weigh_X5_isIn rfl rfl rfl (by decide +kernel) ⟨(Nat.le_of_ble_eq_true rfl), (Nat.le_of_ble_eq_true rfl)⟩) rfl hP hD hS hl.1 rfl (Nat.le_of_ble_eq_true rfl) dX5_weigh_24 (fun H locs hP hD hS hz_10 => ?_)
    refine lv_if_ne (tgt := 32) hx hb dX5_weigh_27 (by decide) (fun c_11 => ?_) (fun c_11 => ?_)
    · have h := ob_f c_11 h
      refine lv_aload_n hx hb dX5_weigh_32 rfl (lv_at hl 0 rfl) ?_
      obtain ⟨S_14, hc_12, h⟩ := ob_1s h
      refine km_cVv (As := []) (rest := []) C (kX5_snap hEE hc_12) (cwV 0 hts gX5_weigh_X5_snap rfl rfl rfl (by decide +kernel) ⟨(Nat.le_of_ble_eq_true rfl), (Nat.le_of_ble_eq_true rfl)⟩) mw_M rfl rfl rfl hP hD hS hl.1 rfl (Nat.le_of_ble_eq_true rfl) dX5_weigh_33 (fun H locs hP hD hS => ?_)
      refine lv_aload_n hx hb dX5_weigh_36 rfl (lv_at hl 0 rfl) ?_
      refine va_get (D := D) (ci := 5) (v := .ref (ad 2)) (C := RX5) (T := TX5) (N := 31) hx hb hts ni_X5_weigh_X5 hown hK hP 0 mw_M rfl 11 (by decide) (hts _ nf_X5_weigh_f70) (fun _ h9 => h9) rfl dX5_weigh_37 ?_
      refine lv_iconst (v := 2) hx hb dX5_weigh_40 (by decide) ?_
      refine lv_iload_n hx hb dX5_weigh_41 rfl (lv_at hl 1 rfl) ?_
      refine lv_iadd hx hb dX5_weigh_42 ?_
      obtain ⟨hv_15, h⟩ := ob_in_s h
      refine va_iald hx hb hK hP 2 0 mw_now rfl hv_15 dX5_weigh_43 ?_
      refine lv_istore_n (lv' := [(3, .int (st_a S_14 1 ((2 : Int32) + x1).toNatClampNeg)), (0, .ref (ad 0)), (1, .int x1), (2, .int x2)]) hx hb dX5_weigh_44 rfl hl (by decide) rfl (fun ls hl => ?_)
      refine lv_aload_n hx hb dX5_weigh_45 rfl (lv_at hl 1 rfl) ?_
      refine va_get (D := D) (ci := 5) (v := .ref (ad 2)) (C := RX5) (T := TX5) (N := 31) hx hb hts ni_X5_weigh_X5 hown hK hP 0 mw_M rfl 11 (by decide) (hts _ nf_X5_weigh_f70) (fun _ h9 => h9) rfl dX5_weigh_46 ?_
      refine lv_iconst (v := 2) hx hb dX5_weigh_49 (by decide) ?_
      refine lv_iload_n hx hb dX5_weigh_50 rfl (lv_at hl 2 rfl) ?_
      refine lv_iadd hx hb dX5_weigh_51 ?_
      refine lv_iload_n hx hb dX5_weigh_52 rfl (lv_at hl 3 rfl) ?_
      obtain ⟨hv_16, h⟩ := ob_in_s h
      refine va_iast hx hb hK hP hD hS 2 0 mw_now rfl hv_16 dX5_weigh_53 (fun H locs hP hD hS => ?_)
      have hP := st_ps mw_s_now hP
      have hD := st_ds mw_s_now hD
      refine lv_iload_n hx hb dX5_weigh_54 rfl (lv_at hl 0 rfl) ?_
      obtain ⟨rfl, rfl⟩ := ob_w h
      exact km_iret C hP hD hS dX5_weigh_55
    · have h := ob_t c_11 h
      refine lv_iconst (v := -1) hx hb dX5_weigh_30 (by decide) ?_
      obtain ⟨rfl, rfl⟩ := ob_w h
      exact km_iret C hP hD hS dX5_weigh_31
def fX5_undo_L26 : Nat → Int32 → RSt → Option (RSt)
  | 0, _, _ => none
  | n + 1, x1, S => (if (58 : Int32) ≤ x1 then (some S) else (ob_in (((58 : Int32) * (st_i S 9)) + x1) 580 (ob_in x1 58 (fX5_undo_L26 n (x1 + (1 : Int32)) (st_sa S 1 x1.toNatClampNeg (st_a S 3 (((58 : Int32) * (st_i S 9)) + x1).toNatClampNeg))))))
def fX5_undo (S : RSt) : Option (Int32 × RSt) := (if (st_i (st_si S 0 (0 : Int32)) 9) = 0 then (some ((-1 : Int32), (st_si S 0 (0 : Int32)))) else (ob_1 (fX5_undo_L26 1000 (0 : Int32) (st_si (st_si S 0 (0 : Int32)) 9 ((st_i (st_si S 0 (0 : Int32)) 9) - (1 : Int32)))) fun S_6 => (some (st_i S_6 9, S_6))))
abbrev rmX5_undo : Room := { frames := 0, cells := 0, slots := 0, locals := 0 }
theorem nf_X5_undo_f1 : Cond.fieldLink RX5 1 "RepeatIndexModel" "thrown" "I" ∈ wsX5_undo := by decide +kernel
theorem ni_X5_undo_X5 : ∀ w ∈ u_ws RX5 TX5 31, w ∈ wsX5_undo := by decide +kernel
theorem nf_X5_undo_f162 : Cond.fieldLink RX5 162 "RepeatIndexModel" "snapMany" "I" ∈ wsX5_undo := by decide +kernel
theorem nf_X5_undo_f70 : Cond.fieldLink RX5 70 "RepeatIndexModel" "now" "[I" ∈ wsX5_undo := by decide +kernel
theorem nf_X5_undo_f76 : Cond.fieldLink RX5 76 "RepeatIndexModel" "snaps" "[I" ∈ wsX5_undo := by decide +kernel
set_option maxHeartbeats 4000000 in
set_option maxRecDepth 100000 in
theorem kX5_undo_L26 {l : Launch} {D : va_G} {cy : Nat → ClassId} {ad : Nat → Nat} {E : ke_T} {p : Program} {e : Env} {s : State} {m : MethodId} {args : Array Value} {below : List Frame} {meth : Method} {c : Code} {A : Nat → Prop} {Q : State → Prop} (C : km_C p s m args meth c cX5_undo 2 RX5 wsX5_undo (some .int) D (mw_t cy) E A) : ∀ (n : Nat) (x1 : Int32) (S : RSt) (S' : RSt) (h : fX5_undo_L26 n x1 S = some S') {H : Heap} {locs : List Loc} {ls : Array Slot} (hP : va_P D vwCl ((mw_w cy ad) S) H) (hD : va_D A ((mw_w cy ad) S)) (hS : va_S A s.heap H locs) (hl : lv_has ls 2 [(0, .ref (ad 0)), (1, .int x1)]) (kx0 : ∀ (H : Heap) (locs : List Loc) (ls : Array Slot), va_P D vwCl ((mw_w cy ad) S') H → va_D A ((mw_w cy ad) S') → va_S A s.heap H locs → lv_has ls 2 [(0, .ref (ad 0))] → W p l e rmX5_undo s m args below meth c H locs 0 0 Q (F0 m 58 ls [])), W p l e rmX5_undo s m args below meth c H locs 0 0 Q (F0 m 26 ls []) := by
  obtain ⟨⟨hx, hb, hml, hown, hts⟩, hr, hlk, hK, hA, hE, hEE⟩ := id C
  intro n
  induction n with
  | zero =>
    intro x1 S S' h
    rw [fX5_undo_L26] at h
    cases h
  | succ n ih =>
    intro x1 S S' h H locs ls hP hD hS hl kx0
    rw [fX5_undo_L26] at h
    refine lv_iload_n hx hb dX5_undo_26 rfl (lv_at hl 1 rfl) ?_
    refine lv_bipush (v := 58) hx hb dX5_undo_27 (by decide) ?_
    refine lv_icmp_ge (tgt := 58) hx hb dX5_undo_29 (by decide) (fun c_2 => ?_) (fun c_2 => ?_)
    · have h := ob_t c_2 h
      cases h
      exact kx0 _ _ _ hP hD hS (lv_sub hl [0] rfl)
    · have h := ob_f c_2 h
      refine lv_aload_n hx hb dX5_undo_32 rfl (lv_at hl 0 rfl) ?_
      refine va_get (D := D) (ci := 5) (v := .ref (ad 2)) (C := RX5) (T := TX5) (N := 31) hx hb hts ni_X5_undo_X5 hown hK hP 0 mw_M rfl 11 (by decide) (hts _ nf_X5_undo_f70) (fun _ h9 => h9) rfl dX5_undo_33 ?_
      refine lv_iload_n hx hb dX5_undo_36 rfl (lv_at hl 1 rfl) ?_
      refine lv_aload_n hx hb dX5_undo_37 rfl (lv_at hl 0 rfl) ?_
      refine va_get (D := D) (ci := 5) (v := .ref (ad 4)) (C := RX5) (T := TX5) (N := 31) hx hb hts ni_X5_undo_X5 hown hK hP 0 mw_M rfl 13 (by decide) (hts _ nf_X5_undo_f76) (fun _ h9 => h9) rfl dX5_undo_38 ?_
      refine lv_bipush (v := 58) hx hb dX5_undo_41 (by decide) ?_
      refine lv_aload_n hx hb dX5_undo_43 rfl (lv_at hl 0 rfl) ?_
      refine va_get (D := D) (ci := 5) (v := .int (st_i S 9)) (C := RX5) (T := TX5) (N := 31) hx hb hts ni_X5_undo_X5 hown hK hP 0 mw_M rfl 14 (by decide) (hts _ nf_X5_undo_f162) (fun _ h9 => h9) rfl dX5_undo_44 ?_
      refine lv_imul hx hb dX5_undo_47 ?_
      refine lv_iload_n hx hb dX5_undo_48 rfl (lv_at hl 1 rfl) ?_
      refine lv_iadd hx hb dX5_undo_49 ?_
      obtain ⟨hv_3, h⟩ := ob_in_s h
      refine va_iald hx hb hK hP 4 0 mw_snaps rfl hv_3 dX5_undo_50 ?_
      obtain ⟨hv_4, h⟩ := ob_in_s h
      refine va_iast hx hb hK hP hD hS 2 0 mw_now rfl hv_4 dX5_undo_51 (fun H locs hP hD hS => ?_)
      have hP := st_ps mw_s_now hP
      have hD := st_ds mw_s_now hD
      refine lv_iinc (v := x1 + (1 : Int32)) (lv' := [(1, .int (x1 + (1 : Int32))), (0, .ref (ad 0))]) hx hb dX5_undo_52 hl (k := 1) rfl (congrArg (fun z => x1 + z) (by decide)) (by decide) rfl (fun ls hl => ?_)
      refine lv_goto (tgt := 26) hx hb dX5_undo_55 (by decide) ?_
      exact ih _ _ _ h hP hD hS (lv_sub hl [1, 0] rfl) kx0
set_option maxHeartbeats 4000000 in
set_option maxRecDepth 100000 in
theorem kX5_undo {l : Launch} {D : va_G} {cy : Nat → ClassId} {ad : Nat → Nat} {E : ke_T} (hEE : km_E E) {S : RSt} {r : Int32} {S' : RSt} (h : fX5_undo S = some (r, S')) : km_i l D (mw_t cy) (mw_w cy ad) E yX5_undo wsX5_undo rmX5_undo [.ref (ad 0)] S r S' := by
  refine km_i_in (cc := cX5_undo) (nL := 2) hEE (by decide) rfl (Nat.le_of_ble_eq_true rfl) ?_
  intro p e s m below meth c A H ls C hP hD hS hl
  have C : km_C p s m _ meth c cX5_undo 2 RX5 wsX5_undo (some .int) D (mw_t cy) E A := C
  obtain ⟨⟨hx, hb, hml, hown, hts⟩, hr, hlk, hK, hA, hE, hEE⟩ := id C
  have hl : lv_has ls 2 [(0, .ref (ad 0))] := hl
  unfold fX5_undo at h
  refine lv_aload_n hx hb dX5_undo_0 rfl (lv_at hl 0 rfl) ?_
  refine lv_iconst (v := 0) hx hb dX5_undo_1 (by decide) ?_
  refine va_put (D := D) (ci := 5) (v := .int (0 : Int32)) (ty := .int) (C := RX5) (T := TX5) (N := 31) hx hb hts ni_X5_undo_X5 tyX5 tyX5_ok nmX5 hown hK hP hD hS 0 mw_M rfl 0 (by decide) (hts _ nf_X5_undo_f1) (fun _ h9 => h9) rfl (by decide +kernel) rfl rfl (Nat.le_of_ble_eq_true rfl) dX5_undo_2 (fun H locs hP hD hS => ?_)
  have hP := st_ps mw_s_thrown hP
  have hD := st_ds mw_s_thrown hD
  refine lv_aload_n hx hb dX5_undo_5 rfl (lv_at hl 0 rfl) ?_
  refine va_get (D := D) (ci := 5) (v := .int (st_i (st_si S 0 (0 : Int32)) 9)) (C := RX5) (T := TX5) (N := 31) hx hb hts ni_X5_undo_X5 hown hK hP 0 mw_M rfl 14 (by decide) (hts _ nf_X5_undo_f162) (fun _ h9 => h9) rfl dX5_undo_6 ?_
  refine lv_if_ne (tgt := 14) hx hb dX5_undo_9 (by decide) (fun c_1 => ?_) (fun c_1 => ?_)
  · have h := ob_f c_1 h
    refine lv_aload_n hx hb dX5_undo_14 rfl (lv_at hl 0 rfl) ?_
    refine lv_dup hx hb dX5_undo_15 rfl ?_
    refine va_get (D := D) (ci := 5) (v := .int (st_i (st_si S 0 (0 : Int32)) 9)) (C := RX5) (T := TX5) (N := 31) hx hb hts ni_X5_undo_X5 hown hK hP 0 mw_M rfl 14 (by decide) (hts _ nf_X5_undo_f162) (fun _ h9 => h9) rfl dX5_undo_16 ?_
    refine lv_iconst (v := 1) hx hb dX5_undo_19 (by decide) ?_
    refine lv_isub hx hb dX5_undo_20 ?_
    refine va_put (D := D) (ci := 5) (v := .int ((st_i (st_si S 0 (0 : Int32)) 9) - (1 : Int32))) (ty := .int) (C := RX5) (T := TX5) (N := 31) hx hb hts ni_X5_undo_X5 tyX5 tyX5_ok nmX5 hown hK hP hD hS 0 mw_M rfl 14 (by decide) (hts _ nf_X5_undo_f162) (fun _ h9 => h9) rfl (by decide +kernel) rfl rfl (Nat.le_of_ble_eq_true rfl) dX5_undo_21 (fun H locs hP hD hS => ?_)
    have hP := st_ps mw_s_snapMany hP
    have hD := st_ds mw_s_snapMany hD
    refine lv_iconst (v := 0) hx hb dX5_undo_24 (by decide) ?_
    refine lv_istore_n (lv' := [(1, .int (0 : Int32)), (0, .ref (ad 0))]) hx hb dX5_undo_25 rfl hl (by decide) rfl (fun ls hl => ?_)
    obtain ⟨S_6, hq_5, h⟩ := ob_1s h
    refine kX5_undo_L26  C _ _ _ _ hq_5 hP hD hS (lv_sub hl [1, 0] rfl) (fun H locs ls hP hD hS hl => ?_)
    refine lv_aload_n hx hb dX5_undo_58 rfl (lv_at hl 0 rfl) ?_
    refine va_get (D := D) (ci := 5) (v := .int (st_i S_6 9)) (C := RX5) (T := TX5) (N := 31) hx hb hts ni_X5_undo_X5 hown hK hP 0 mw_M rfl 14 (by decide) (hts _ nf_X5_undo_f162) (fun _ h9 => h9) rfl dX5_undo_59 ?_
    obtain ⟨rfl, rfl⟩ := ob_w h
    exact km_iret C hP hD hS dX5_undo_62
  · have h := ob_t c_1 h
    refine lv_iconst (v := -1) hx hb dX5_undo_12 (by decide) ?_
    obtain ⟨rfl, rfl⟩ := ob_w h
    exact km_iret C hP hD hS dX5_undo_13
