def fX4_greatestCommon_L9 : Nat → Int64 → Int64 → Int32 → RSt → Option (Int64 × RSt)
  | 0, _, _, _, _ => none
  | n + 1, x4, x6, x8, S => (if (100 : Int32) ≤ x8 then (some (x4, S)) else (if (lg_cmp x6 (0 : Int64)) = 0 then (some (x4, S)) else (ob_nz x6 (fX4_greatestCommon_L9 n x6 (x4 - x4 / x6 * x6) (x8 + (1 : Int32)) S))))
def fX4_greatestCommon (x0 : Int64) (x2 : Int64) (S : RSt) : Option (Int64 × RSt) := (ob_2 (fX4_greatestCommon_L9 1000 x0 x2 (0 : Int32) S) fun o_6 S_5 => (some (o_6, S_5)))
abbrev rmX4_greatestCommon : Room := { frames := 0, cells := 0, slots := 0, locals := 0 }
set_option maxHeartbeats 4000000 in
set_option maxRecDepth 100000 in
theorem kX4_greatestCommon_L9 {l : Launch} {D : va_G} {cy : Nat → ClassId} {ad : Nat → Nat} {E : ke_T} {p : Program} {e : Env} {s : State} {m : MethodId} {args : Array Value} {below : List Frame} {meth : Method} {c : Code} {A : Nat → Prop} {Q : State → Prop} (C : km_C p s m args meth c cX4_greatestCommon 11 RX4 wsX4_greatestCommon (some .long) D (rw_t cy) E A) : ∀ (n : Nat) (x4 : Int64) (x6 : Int64) (x8 : Int32) (S : RSt) (o4 : Int64) (S' : RSt) (h : fX4_greatestCommon_L9 n x4 x6 x8 S = some (o4, S')) {H : Heap} {locs : List Loc} {ls : Array Slot} (hP : va_P D vwCl ((rw_w cy ad) S) H) (hD : va_D A ((rw_w cy ad) S)) (hS : va_S A s.heap H locs) (hl : lv_has ls 11 [(4, .long x4), (6, .long x6), (8, .int x8)]) (kx0 : ∀ (H : Heap) (locs : List Loc) (ls : Array Slot), va_P D vwCl ((rw_w cy ad) S') H → va_D A ((rw_w cy ad) S') → va_S A s.heap H locs → lv_has ls 11 [(4, .long o4)] → W p l e rmX4_greatestCommon s m args below meth c H locs 0 0 Q (F0 m 44 ls [])), W p l e rmX4_greatestCommon s m args below meth c H locs 0 0 Q (F0 m 9 ls []) := by
  obtain ⟨⟨hx, hb, hml, hown, hts⟩, hr, hlk, hK, hA, hE, hEE⟩ := id C
  intro n
  induction n with
  | zero =>
    intro x4 x6 x8 S o4 S' h
    rw [fX4_greatestCommon_L9] at h
    cases h
  | succ n ih =>
    intro x4 x6 x8 S o4 S' h H locs ls hP hD hS hl kx0
    rw [fX4_greatestCommon_L9] at h
    refine lv_iload hx hb dX4_greatestCommon_9 (lv_at hl 2 rfl) ?_
    refine lv_bipush (v := 100) hx hb dX4_greatestCommon_11 (by decide) ?_
    refine lv_icmp_ge (tgt := 44) hx hb dX4_greatestCommon_13 (by decide) (fun c_1 => ?_) (fun c_1 => ?_)
    · have h := ob_t c_1 h
      cases h
      exact kx0 _ _ _ hP hD hS (lv_sub hl [0] rfl)
    · have h := ob_f c_1 h
      refine lv_lload hx hb dX4_greatestCommon_16 (lv_at hl 1 rfl) ?_
      refine lv_lconst (v := 0) hx hb dX4_greatestCommon_18 (by decide) ?_
      refine W.lcmp hx hb dX4_greatestCommon_19 ?_
      refine lv_if_eq (tgt := 44) hx hb dX4_greatestCommon_20 (by decide) (fun c_2 => ?_) (fun c_2 => ?_)
      · have h := ob_t c_2 h
        cases h
        exact kx0 _ _ _ hP hD hS (lv_sub hl [0] rfl)
      · have h := ob_f c_2 h
        refine lv_lload hx hb dX4_greatestCommon_23 (lv_at hl 0 rfl) ?_
        refine lv_lload hx hb dX4_greatestCommon_25 (lv_at hl 1 rfl) ?_
        obtain ⟨hv_3, h⟩ := ob_nz_s h
        refine lv_lrem hx hb dX4_greatestCommon_27 hv_3 ?_
        refine lv_lstore (lv' := [(9, .long (x4 - x4 / x6 * x6)), (4, .long x4), (6, .long x6), (8, .int x8)]) hx hb dX4_greatestCommon_28 hl (by decide) rfl (fun ls hl => ?_)
        refine lv_lload hx hb dX4_greatestCommon_30 (lv_at hl 2 rfl) ?_
        refine lv_lstore (lv' := [(4, .long x6), (9, .long (x4 - x4 / x6 * x6)), (6, .long x6), (8, .int x8)]) hx hb dX4_greatestCommon_32 hl (by decide) rfl (fun ls hl => ?_)
        refine lv_lload hx hb dX4_greatestCommon_34 (lv_at hl 1 rfl) ?_
        refine lv_lstore (lv' := [(6, .long (x4 - x4 / x6 * x6)), (4, .long x6), (9, .long (x4 - x4 / x6 * x6)), (8, .int x8)]) hx hb dX4_greatestCommon_36 hl (by decide) rfl (fun ls hl => ?_)
        refine lv_iinc (v := x8 + (1 : Int32)) (lv' := [(8, .int (x8 + (1 : Int32))), (6, .long (x4 - x4 / x6 * x6)), (4, .long x6), (9, .long (x4 - x4 / x6 * x6))]) hx hb dX4_greatestCommon_38 hl (k := 3) rfl (congrArg (fun z => x8 + z) (by decide)) (by decide) rfl (fun ls hl => ?_)
        refine lv_goto (tgt := 9) hx hb dX4_greatestCommon_41 (by decide) ?_
        exact ih _ _ _ _ _ _ h hP hD hS (lv_sub hl [2, 1, 0] rfl) kx0
set_option maxHeartbeats 4000000 in
set_option maxRecDepth 100000 in
theorem kX4_greatestCommon {l : Launch} {D : va_G} {cy : Nat → ClassId} {ad : Nat → Nat} {E : ke_T} (hEE : km_E E) {x0 : Int64} {x2 : Int64} {S : RSt} {r : Int64} {S' : RSt} (h : fX4_greatestCommon x0 x2 S = some (r, S')) : km_l l D (rw_t cy) (rw_w cy ad) E yX4_greatestCommon wsX4_greatestCommon rmX4_greatestCommon [.long x0, .long x2] S r S' := by
  refine km_l_in (cc := cX4_greatestCommon) (nL := 11) hEE (by decide) rfl (Nat.le_of_ble_eq_true rfl) ?_
  intro p e s m below meth c A H ls C hP hD hS hl
  have C : km_C p s m _ meth c cX4_greatestCommon 11 RX4 wsX4_greatestCommon (some .long) D (rw_t cy) E A := C
  obtain ⟨⟨hx, hb, hml, hown, hts⟩, hr, hlk, hK, hA, hE, hEE⟩ := id C
  have hl : lv_has ls 11 [(0, .long x0), (2, .long x2)] := hl
  unfold fX4_greatestCommon at h
  refine lv_lload_n hx hb dX4_greatestCommon_0 rfl (lv_at hl 0 rfl) ?_
  refine lv_lstore (lv' := [(4, .long x0), (0, .long x0), (2, .long x2)]) hx hb dX4_greatestCommon_1 hl (by decide) rfl (fun ls hl => ?_)
  refine lv_lload_n hx hb dX4_greatestCommon_3 rfl (lv_at hl 2 rfl) ?_
  refine lv_lstore (lv' := [(6, .long x2), (4, .long x0), (0, .long x0), (2, .long x2)]) hx hb dX4_greatestCommon_4 hl (by decide) rfl (fun ls hl => ?_)
  refine lv_iconst (v := 0) hx hb dX4_greatestCommon_6 (by decide) ?_
  refine lv_istore (lv' := [(8, .int (0 : Int32)), (6, .long x2), (4, .long x0), (0, .long x0), (2, .long x2)]) hx hb dX4_greatestCommon_7 hl (by decide) rfl (fun ls hl => ?_)
  obtain ⟨o_6, S_5, hq_4, h⟩ := ob_2s h
  refine kX4_greatestCommon_L9  C _ _ _ _ _ _ _ hq_4 hP hD hS (lv_sub hl [2, 1, 0] rfl) (fun H locs ls hP hD hS hl => ?_)
  refine lv_lload hx hb dX4_greatestCommon_44 (lv_at hl 0 rfl) ?_
  obtain ⟨rfl, rfl⟩ := ob_w h
  exact km_lret C hP hD hS dX4_greatestCommon_46
def fX4_lowestTerms (x0 : Int64) (x2 : Int64) (x4 : Int32) (S : RSt) : Option (Int64 × RSt) := (ob_2 (fX4_greatestCommon (if 0 < x0 then x0 else -x0) x2 S) fun r_2 S_3 => (if 0 < (lg_cmp r_2 (0 : Int64)) then (if x4 = 0 then (ob_nz r_2 (some (x0 / r_2, S_3))) else (ob_nz r_2 (some (x2 / r_2, S_3)))) else (if x4 = 0 then (some ((0 : Int64), S_3)) else (some ((1 : Int64), S_3)))))
abbrev rmX4_lowestTerms : Room := { frames := 1, cells := 0, slots := 0, locals := 30 }
theorem nf_X4_lowestTerms_m210 : Cond.methodLink RX4 210 Lib.MathLoose.abs_long.x ∈ wsX4_lowestTerms := by decide +kernel
theorem nf_X4_lowestTerms_sabs : Cond.static Lib.MathLoose.abs_long.x ∈ wsX4_lowestTerms := by decide +kernel
theorem nf_X4_lowestTerms_iMath : Cond.initialized "java/lang/Math" ∈ wsX4_lowestTerms := by decide +kernel
theorem nf_X4_lowestTerms_cabs : Cond.code Lib.MathLoose.abs_long.x Lib.MathLoose.abs_long.code 2 (some .long) ∈ wsX4_lowestTerms := List.mem_of_getElem? (i := 4) rfl
set_option maxHeartbeats 4000000 in
set_option maxRecDepth 100000 in
theorem kX4_lowestTerms {l : Launch} {D : va_G} {cy : Nat → ClassId} {ad : Nat → Nat} {E : ke_T} (hEE : km_E E) {x0 : Int64} {x2 : Int64} {x4 : Int32} {S : RSt} {r : Int64} {S' : RSt} (h : fX4_lowestTerms x0 x2 x4 S = some (r, S')) : km_l l D (rw_t cy) (rw_w cy ad) E yX4_lowestTerms wsX4_lowestTerms rmX4_lowestTerms [.long x0, .long x2, .int x4] S r S' := by
  refine km_l_in (cc := cX4_lowestTerms) (nL := 7) hEE (by decide) rfl (Nat.le_of_ble_eq_true rfl) ?_
  intro p e s m below meth c A H ls C hP hD hS hl
  have C : km_C p s m _ meth c cX4_lowestTerms 7 RX4 wsX4_lowestTerms (some .long) D (rw_t cy) E A := C
  obtain ⟨⟨hx, hb, hml, hown, hts⟩, hr, hlk, hK, hA, hE, hEE⟩ := id C
  have hl : lv_has ls 7 [(0, .long x0), (2, .long x2), (4, .int x4)] := hl
  unfold fX4_lowestTerms at h
  refine lv_lload_n hx hb dX4_lowestTerms_0 rfl (lv_at hl 0 rfl) ?_
  refine va_mabs_long hx hb (by rw [hml]; exact hl.1.symm) hown (hts _ nf_X4_lowestTerms_m210) (hts _ nf_X4_lowestTerms_sabs) (hts _ nf_X4_lowestTerms_iMath) (hts _ nf_X4_lowestTerms_cabs) (Nat.le_of_ble_eq_true rfl) (Nat.le_of_ble_eq_true rfl) (Nat.zero_le _) (Nat.zero_le _) dX4_lowestTerms_1 ?_
  refine lv_lload_n hx hb dX4_lowestTerms_4 rfl (lv_at hl 1 rfl) ?_
  obtain ⟨r_2, S_3, hc_1, h⟩ := ob_2s h
  refine km_cSl (As := [.long (if 0 < x0 then x0 else -x0), .long x2]) (rest := []) C (kX4_greatestCommon hEE hc_1) (va_cwS 2 hts gX4_lowestTerms_X4_greatestCommon rfl rfl rfl (by decide +kernel) ⟨(Nat.le_of_ble_eq_true rfl), (Nat.le_of_ble_eq_true rfl)⟩) rfl hP hD hS hl.1 rfl (Nat.le_of_ble_eq_true rfl) dX4_lowestTerms_5 (fun H locs hP hD hS => ?_)
  refine lv_lstore (lv' := [(5, .long r_2), (0, .long x0), (2, .long x2), (4, .int x4)]) hx hb dX4_lowestTerms_8 hl (by decide) rfl (fun ls hl => ?_)
  refine lv_lload hx hb dX4_lowestTerms_10 (lv_at hl 0 rfl) ?_
  refine lv_lconst (v := 0) hx hb dX4_lowestTerms_12 (by decide) ?_
  refine W.lcmp hx hb dX4_lowestTerms_13 ?_
  refine lv_if_gt (tgt := 28) hx hb dX4_lowestTerms_14 (by decide) (fun c_4 => ?_) (fun c_4 => ?_)
  · have h := ob_t c_4 h
    refine lv_iload hx hb dX4_lowestTerms_28 (lv_at hl 3 rfl) ?_
    refine lv_if_eq (tgt := 37) hx hb dX4_lowestTerms_30 (by decide) (fun c_5 => ?_) (fun c_5 => ?_)
    · have h := ob_t c_5 h
      refine lv_lload_n hx hb dX4_lowestTerms_37 rfl (lv_at hl 1 rfl) ?_
      refine lv_lload hx hb dX4_lowestTerms_38 (lv_at hl 0 rfl) ?_
      obtain ⟨hv_6, h⟩ := ob_nz_s h
      refine lv_ldiv hx hb dX4_lowestTerms_40 hv_6 ?_
      obtain ⟨rfl, rfl⟩ := ob_w h
      exact km_lret C hP hD hS dX4_lowestTerms_41
    · have h := ob_f c_5 h
      refine lv_lload_n hx hb dX4_lowestTerms_33 rfl (lv_at hl 2 rfl) ?_
      refine lv_goto (tgt := 38) hx hb dX4_lowestTerms_34 (by decide) ?_
      refine lv_lload hx hb dX4_lowestTerms_38 (lv_at hl 0 rfl) ?_
      obtain ⟨hv_7, h⟩ := ob_nz_s h
      refine lv_ldiv hx hb dX4_lowestTerms_40 hv_7 ?_
      obtain ⟨rfl, rfl⟩ := ob_w h
      exact km_lret C hP hD hS dX4_lowestTerms_41
  · have h := ob_f c_4 h
    refine lv_iload hx hb dX4_lowestTerms_17 (lv_at hl 3 rfl) ?_
    refine lv_if_eq (tgt := 26) hx hb dX4_lowestTerms_19 (by decide) (fun c_8 => ?_) (fun c_8 => ?_)
    · have h := ob_t c_8 h
      refine lv_lconst (v := 0) hx hb dX4_lowestTerms_26 (by decide) ?_
      obtain ⟨rfl, rfl⟩ := ob_w h
      exact km_lret C hP hD hS dX4_lowestTerms_27
    · have h := ob_f c_8 h
      refine lv_lconst (v := 1) hx hb dX4_lowestTerms_22 (by decide) ?_
      refine lv_goto (tgt := 27) hx hb dX4_lowestTerms_23 (by decide) ?_
      obtain ⟨rfl, rfl⟩ := ob_w h
      exact km_lret C hP hD hS dX4_lowestTerms_27
def fX4_fitNow (S : RSt) : Option (RSt) := (if (st_i S 54) = 0 then (ob_1 (fX1_solve 0 0 S) fun S_4 => (some (st_si S_4 54 (1 : Int32)))) else (some S))
abbrev rmX4_fitNow : Room := { frames := 5, cells := 0, slots := 0, locals := 113 }
theorem nf_X4_fitNow_f36 : Cond.fieldLink RX4 36 "RepeatIndex" "fitStands" "Z" ∈ wsX4_fitNow := by decide +kernel
theorem ni_X4_fitNow_X4 : ∀ w ∈ u_ws RX4 TX4 7, w ∈ wsX4_fitNow := by decide +kernel
theorem nf_X4_fitNow_f29 : Cond.fieldLink RX4 29 "RepeatIndex" "fit" "LRepeatIndex$Fit;" ∈ wsX4_fitNow := by decide +kernel
theorem nf_X4_fitNow_f19 : Cond.fieldLink RX4 19 "RepeatIndex" "book" "LRepeatIndex$Book;" ∈ wsX4_fitNow := by decide +kernel
set_option maxHeartbeats 4000000 in
set_option maxRecDepth 100000 in
theorem kX4_fitNow {l : Launch} {D : va_G} {cy : Nat → ClassId} {ad : Nat → Nat} {E : ke_T} (hEE : km_E E) {S : RSt} {S' : RSt} (h : fX4_fitNow S = some S') : km_r l D (rw_t cy) (rw_w cy ad) E yX4_fitNow wsX4_fitNow rmX4_fitNow [.ref (ad 17)] S (ad (13 + 0)) S' := by
  refine km_r_in (cc := cX4_fitNow) (nL := 1) hEE (by decide) rfl (Nat.le_of_ble_eq_true rfl) ?_
  intro p e s m below meth c A H ls C hP hD hS hl
  have C : km_C p s m _ meth c cX4_fitNow 1 RX4 wsX4_fitNow (some (.object "RepeatIndex$Fit")) D (rw_t cy) E A := C
  obtain ⟨⟨hx, hb, hml, hown, hts⟩, hr, hlk, hK, hA, hE, hEE⟩ := id C
  have hl : lv_has ls 1 [(0, .ref (ad 17))] := hl
  unfold fX4_fitNow at h
  refine lv_aload_n hx hb dX4_fitNow_0 rfl (lv_at hl 0 rfl) ?_
  refine va_get (D := D) (ci := 4) (v := .int (st_i S 54)) (C := RX4) (T := TX4) (N := 7) hx hb hts ni_X4_fitNow_X4 hown hK hP 17 rw_Main rfl 5 (by decide) (hts _ nf_X4_fitNow_f36) (fun _ h9 => h9) rfl dX4_fitNow_1 ?_
  refine lv_if_ne (tgt := 23) hx hb dX4_fitNow_4 (by decide) (fun c_1 => ?_) (fun c_1 => ?_)
  · have h := ob_f c_1 h
    refine lv_aload_n hx hb dX4_fitNow_23 rfl (lv_at hl 0 rfl) ?_
    refine va_get (D := D) (ci := 4) (v := .ref (ad (13 + 0))) (C := RX4) (T := TX4) (N := 7) hx hb hts ni_X4_fitNow_X4 hown hK hP 17 rw_Main rfl 3 (by decide) (hts _ nf_X4_fitNow_f29) (fun _ h9 => h9) rfl dX4_fitNow_24 ?_
    obtain rfl := ob_v h
    exact km_rret C rfl hP hD hS dX4_fitNow_27
  · have h := ob_t c_1 h
    refine lv_aload_n hx hb dX4_fitNow_7 rfl (lv_at hl 0 rfl) ?_
    refine va_get (D := D) (ci := 4) (v := .ref (ad (13 + 0))) (C := RX4) (T := TX4) (N := 7) hx hb hts ni_X4_fitNow_X4 hown hK hP 17 rw_Main rfl 3 (by decide) (hts _ nf_X4_fitNow_f29) (fun _ h9 => h9) rfl dX4_fitNow_8 ?_
    refine lv_aload_n hx hb dX4_fitNow_11 rfl (lv_at hl 0 rfl) ?_
    refine va_get (D := D) (ci := 4) (v := .ref (ad 0)) (C := RX4) (T := TX4) (N := 7) hx hb hts ni_X4_fitNow_X4 hown hK hP 17 rw_Main rfl 1 (by decide) (hts _ nf_X4_fitNow_f19) (fun _ h9 => h9) rfl dX4_fitNow_12 ?_
    obtain ⟨S_4, hc_2, h⟩ := ob_1s h
    refine km_cVv (As := [.ref (ad 0)]) (rest := []) C (kX1_solve hEE (by decide : 0 < 2) (by decide : 0 < 13) hc_2) (cwV 1 hts gX4_fitNow_X1_solve rfl rfl rfl (by decide +kernel) ⟨(Nat.le_of_ble_eq_true rfl), (Nat.le_of_ble_eq_true rfl)⟩) (rw_Fit (by decide : 0 < 2)) rfl rfl rfl hP hD hS hl.1 rfl (Nat.le_of_ble_eq_true rfl) dX4_fitNow_15 (fun H locs hP hD hS => ?_)
    refine lv_aload_n hx hb dX4_fitNow_18 rfl (lv_at hl 0 rfl) ?_
    refine lv_iconst (v := 1) hx hb dX4_fitNow_19 (by decide) ?_
    refine va_put (D := D) (ci := 4) (v := .int (1 : Int32)) (ty := .boolean) (C := RX4) (T := TX4) (N := 7) hx hb hts ni_X4_fitNow_X4 tyX4 tyX4_ok nmX4 hown hK hP hD hS 17 rw_Main rfl 5 (by decide) (hts _ nf_X4_fitNow_f36) (fun _ h9 => h9) rfl (by decide +kernel) rfl rfl (Nat.le_of_ble_eq_true rfl) dX4_fitNow_20 (fun H locs hP hD hS => ?_)
    have hP := st_ps rw_s_Main_fitStands hP
    have hD := st_ds rw_s_Main_fitStands hD
    refine lv_aload_n hx hb dX4_fitNow_23 rfl (lv_at hl 0 rfl) ?_
    refine va_get (D := D) (ci := 4) (v := .ref (ad (13 + 0))) (C := RX4) (T := TX4) (N := 7) hx hb hts ni_X4_fitNow_X4 hown hK hP 17 rw_Main rfl 3 (by decide) (hts _ nf_X4_fitNow_f29) (fun _ h9 => h9) rfl dX4_fitNow_24 ?_
    obtain rfl := ob_v h
    exact km_rret C rfl hP hD hS dX4_fitNow_27
def fX4_beginAct (S : RSt) : Option (RSt) := (ob_1 (fX2_keep 0 S) fun S_3 => (some (st_si S_3 54 (0 : Int32))))
abbrev rmX4_beginAct : Room := { frames := 3, cells := 0, slots := 0, locals := 102 }
theorem nf_X4_beginAct_f43 : Cond.fieldLink RX4 43 "RepeatIndex" "history" "LRepeatIndex$History;" ∈ wsX4_beginAct := by decide +kernel
theorem ni_X4_beginAct_X4 : ∀ w ∈ u_ws RX4 TX4 7, w ∈ wsX4_beginAct := by decide +kernel
theorem nf_X4_beginAct_f19 : Cond.fieldLink RX4 19 "RepeatIndex" "book" "LRepeatIndex$Book;" ∈ wsX4_beginAct := by decide +kernel
theorem nf_X4_beginAct_f36 : Cond.fieldLink RX4 36 "RepeatIndex" "fitStands" "Z" ∈ wsX4_beginAct := by decide +kernel
set_option maxHeartbeats 4000000 in
set_option maxRecDepth 100000 in
theorem kX4_beginAct {l : Launch} {D : va_G} {cy : Nat → ClassId} {ad : Nat → Nat} {E : ke_T} (hEE : km_E E) {S : RSt} {S' : RSt} (h : fX4_beginAct S = some S') : km_v l D (rw_t cy) (rw_w cy ad) E yX4_beginAct wsX4_beginAct rmX4_beginAct [.ref (ad 17)] S S' := by
  refine km_v_in (cc := cX4_beginAct) (nL := 1) hEE (by decide) rfl (Nat.le_of_ble_eq_true rfl) ?_
  intro p e s m below meth c A H ls C hP hD hS hl
  have C : km_C p s m _ meth c cX4_beginAct 1 RX4 wsX4_beginAct none D (rw_t cy) E A := C
  obtain ⟨⟨hx, hb, hml, hown, hts⟩, hr, hlk, hK, hA, hE, hEE⟩ := id C
  have hl : lv_has ls 1 [(0, .ref (ad 17))] := hl
  unfold fX4_beginAct at h
  refine lv_aload_n hx hb dX4_beginAct_0 rfl (lv_at hl 0 rfl) ?_
  refine va_get (D := D) (ci := 4) (v := .ref (ad 15)) (C := RX4) (T := TX4) (N := 7) hx hb hts ni_X4_beginAct_X4 hown hK hP 17 rw_Main rfl 6 (by decide) (hts _ nf_X4_beginAct_f43) (fun _ h9 => h9) rfl dX4_beginAct_1 ?_
  refine lv_aload_n hx hb dX4_beginAct_4 rfl (lv_at hl 0 rfl) ?_
  refine va_get (D := D) (ci := 4) (v := .ref (ad 0)) (C := RX4) (T := TX4) (N := 7) hx hb hts ni_X4_beginAct_X4 hown hK hP 17 rw_Main rfl 1 (by decide) (hts _ nf_X4_beginAct_f19) (fun _ h9 => h9) rfl dX4_beginAct_5 ?_
  obtain ⟨S_3, hc_1, h⟩ := ob_1s h
  refine km_cVv (As := [.ref (ad 0)]) (rest := []) C (kX2_keep hEE (by decide : 0 < 13) hc_1) (cwV 1 hts gX4_beginAct_X2_keep rfl rfl rfl (by decide +kernel) ⟨(Nat.le_of_ble_eq_true rfl), (Nat.le_of_ble_eq_true rfl)⟩) rw_Hist rfl rfl rfl hP hD hS hl.1 rfl (Nat.le_of_ble_eq_true rfl) dX4_beginAct_8 (fun H locs hP hD hS => ?_)
  refine lv_aload_n hx hb dX4_beginAct_11 rfl (lv_at hl 0 rfl) ?_
  refine lv_iconst (v := 0) hx hb dX4_beginAct_12 (by decide) ?_
  refine va_put (D := D) (ci := 4) (v := .int (0 : Int32)) (ty := .boolean) (C := RX4) (T := TX4) (N := 7) hx hb hts ni_X4_beginAct_X4 tyX4 tyX4_ok nmX4 hown hK hP hD hS 17 rw_Main rfl 5 (by decide) (hts _ nf_X4_beginAct_f36) (fun _ h9 => h9) rfl (by decide +kernel) rfl rfl (Nat.le_of_ble_eq_true rfl) dX4_beginAct_13 (fun H locs hP hD hS => ?_)
  have hP := st_ps rw_s_Main_fitStands hP
  have hD := st_ds rw_s_Main_fitStands hD
  obtain rfl := ob_v h
  exact km_vret C hP hD hS dX4_beginAct_16
def fX4_end (x1 : Int32) (S : RSt) : Option (Int32 × RSt) := (if x1 < 0 then (some ((0 : Int32), S)) else (if x1 ≤ (st_i S 45) then (some ((1 : Int32), (st_si S 45 x1))) else (some ((0 : Int32), S))))
abbrev rmX4_end : Room := { frames := 0, cells := 0, slots := 0, locals := 0 }
theorem nf_X4_end_f12 : Cond.fieldLink RX4 12 "RepeatIndex" "tape" "LRepeatIndex$Tape;" ∈ wsX4_end := by decide +kernel
theorem ni_X4_end_X4 : ∀ w ∈ u_ws RX4 TX4 7, w ∈ wsX4_end := by decide +kernel
theorem nf_X4_end_f55 : Cond.fieldLink RX4 55 "RepeatIndex$Tape" "length" "I" ∈ wsX4_end := by decide +kernel
theorem ni_X4_end_X3 : ∀ w ∈ u_ws RX3 TX3 11, w ∈ wsX4_end := by decide +kernel
set_option maxHeartbeats 4000000 in
set_option maxRecDepth 100000 in
theorem kX4_end {l : Launch} {D : va_G} {cy : Nat → ClassId} {ad : Nat → Nat} {E : ke_T} (hEE : km_E E) {x1 : Int32} {S : RSt} {r : Int32} {S' : RSt} (h : fX4_end x1 S = some (r, S')) : km_z l D (rw_t cy) (rw_w cy ad) E yX4_end wsX4_end rmX4_end [.ref (ad 17), .int x1] S r S' := by
  refine km_z_in (cc := cX4_end) (nL := 2) hEE (by decide) rfl (Nat.le_of_ble_eq_true rfl) ?_
  intro p e s m below meth c A H ls C hP hD hS hl
  have C : km_C p s m _ meth c cX4_end 2 RX4 wsX4_end (some .boolean) D (rw_t cy) E A := C
  obtain ⟨⟨hx, hb, hml, hown, hts⟩, hr, hlk, hK, hA, hE, hEE⟩ := id C
  have hl : lv_has ls 2 [(0, .ref (ad 17)), (1, .int x1)] := hl
  unfold fX4_end at h
  refine lv_iload_n hx hb dX4_end_0 rfl (lv_at hl 1 rfl) ?_
  refine lv_if_lt (tgt := 15) hx hb dX4_end_1 (by decide) (fun c_1 => ?_) (fun c_1 => ?_)
  · have h := ob_t c_1 h
    refine lv_iconst (v := 0) hx hb dX4_end_15 (by decide) ?_
    obtain ⟨rfl, rfl⟩ := ob_w h
    exact km_zret C (by decide) hP hD hS dX4_end_16
  · have h := ob_f c_1 h
    refine lv_iload_n hx hb dX4_end_4 rfl (lv_at hl 1 rfl) ?_
    refine lv_aload_n hx hb dX4_end_5 rfl (lv_at hl 0 rfl) ?_
    refine va_get (D := D) (ci := 4) (v := .ref (ad 16)) (C := RX4) (T := TX4) (N := 7) hx hb hts ni_X4_end_X4 hown hK hP 17 rw_Main rfl 0 (by decide) (hts _ nf_X4_end_f12) (fun _ h9 => h9) rfl dX4_end_6 ?_
    refine va_get (D := D) (ci := 3) (v := .int (st_i S 45)) (C := RX3) (T := TX3) (N := 11) hx hb hts ni_X4_end_X3 hown hK hP 16 rw_Tape rfl 0 (by decide) (hts _ nf_X4_end_f55) (fun _ h9 => h9) rfl dX4_end_9 ?_
    refine lv_icmp_le (tgt := 17) hx hb dX4_end_12 (by decide) (fun c_2 => ?_) (fun c_2 => ?_)
    · have h := ob_t c_2 h
      refine lv_aload_n hx hb dX4_end_17 rfl (lv_at hl 0 rfl) ?_
      refine va_get (D := D) (ci := 4) (v := .ref (ad 16)) (C := RX4) (T := TX4) (N := 7) hx hb hts ni_X4_end_X4 hown hK hP 17 rw_Main rfl 0 (by decide) (hts _ nf_X4_end_f12) (fun _ h9 => h9) rfl dX4_end_18 ?_
      refine lv_iload_n hx hb dX4_end_21 rfl (lv_at hl 1 rfl) ?_
      refine va_put (D := D) (ci := 3) (v := .int x1) (ty := .int) (C := RX3) (T := TX3) (N := 11) hx hb hts ni_X4_end_X3 tyX3 tyX3_ok nmX3 hown hK hP hD hS 16 rw_Tape rfl 0 (by decide) (hts _ nf_X4_end_f55) (fun _ h9 => h9) rfl (by decide +kernel) rfl rfl (Nat.le_of_ble_eq_true rfl) dX4_end_22 (fun H locs hP hD hS => ?_)
      have hP := st_ps rw_s_Tape_length hP
      have hD := st_ds rw_s_Tape_length hD
      refine lv_iconst (v := 1) hx hb dX4_end_25 (by decide) ?_
      obtain ⟨rfl, rfl⟩ := ob_w h
      exact km_zret C (by decide) hP hD hS dX4_end_26
    · have h := ob_f c_2 h
      refine lv_iconst (v := 0) hx hb dX4_end_15 (by decide) ?_
      obtain ⟨rfl, rfl⟩ := ob_w h
      exact km_zret C (by decide) hP hD hS dX4_end_16
def fX4_fault (S : RSt) : Option (Int32 × RSt) := (some (st_i S 46, S))
abbrev rmX4_fault : Room := { frames := 0, cells := 0, slots := 0, locals := 0 }
theorem nf_X4_fault_f12 : Cond.fieldLink RX4 12 "RepeatIndex" "tape" "LRepeatIndex$Tape;" ∈ wsX4_fault := by decide +kernel
theorem ni_X4_fault_X4 : ∀ w ∈ u_ws RX4 TX4 7, w ∈ wsX4_fault := by decide +kernel
theorem nf_X4_fault_f79 : Cond.fieldLink RX4 79 "RepeatIndex$Tape" "faultKind" "I" ∈ wsX4_fault := by decide +kernel
theorem ni_X4_fault_X3 : ∀ w ∈ u_ws RX3 TX3 11, w ∈ wsX4_fault := by decide +kernel
set_option maxHeartbeats 4000000 in
set_option maxRecDepth 100000 in
theorem kX4_fault {l : Launch} {D : va_G} {cy : Nat → ClassId} {ad : Nat → Nat} {E : ke_T} (hEE : km_E E) {S : RSt} {r : Int32} {S' : RSt} (h : fX4_fault S = some (r, S')) : km_i l D (rw_t cy) (rw_w cy ad) E yX4_fault wsX4_fault rmX4_fault [.ref (ad 17)] S r S' := by
  refine km_i_in (cc := cX4_fault) (nL := 1) hEE (by decide) rfl (Nat.le_of_ble_eq_true rfl) ?_
  intro p e s m below meth c A H ls C hP hD hS hl
  have C : km_C p s m _ meth c cX4_fault 1 RX4 wsX4_fault (some .int) D (rw_t cy) E A := C
  obtain ⟨⟨hx, hb, hml, hown, hts⟩, hr, hlk, hK, hA, hE, hEE⟩ := id C
  have hl : lv_has ls 1 [(0, .ref (ad 17))] := hl
  unfold fX4_fault at h
  refine lv_aload_n hx hb dX4_fault_0 rfl (lv_at hl 0 rfl) ?_
  refine va_get (D := D) (ci := 4) (v := .ref (ad 16)) (C := RX4) (T := TX4) (N := 7) hx hb hts ni_X4_fault_X4 hown hK hP 17 rw_Main rfl 0 (by decide) (hts _ nf_X4_fault_f12) (fun _ h9 => h9) rfl dX4_fault_1 ?_
  refine va_get (D := D) (ci := 3) (v := .int (st_i S 46)) (C := RX3) (T := TX3) (N := 11) hx hb hts ni_X4_fault_X3 hown hK hP 16 rw_Tape rfl 1 (by decide) (hts _ nf_X4_fault_f79) (fun _ h9 => h9) rfl dX4_fault_4 ?_
  obtain ⟨rfl, rfl⟩ := ob_w h
  exact km_iret C hP hD hS dX4_fault_7
def fX4_now (x1 : Int32) (S : RSt) : Option (Int32 × RSt) := (if x1 = (0 : Int32) then (some (st_i S (3 * 0), S)) else (if x1 = (1 : Int32) then (some (st_i S (3 * 0 + 1), S)) else (if x1 = (2 : Int32) then (some (st_i S (3 * 0 + 2), S)) else (if x1 = (3 : Int32) then (ob_1 (fX4_fitNow S) fun S_7 => (some (st_i S_7 (40 + 2 * 0), S_7))) else (if x1 = (4 : Int32) then (ob_1 (fX4_fitNow S) fun S_11 => (ob_2 (fX1_countParts 0 S_11) fun r_13 S_14 => (some (r_13, S_14)))) else (if x1 = (5 : Int32) then (some (st_i S 43, S)) else (if x1 = (6 : Int32) then (some (st_i S 45, S)) else (some ((-1 : Int32), S)))))))))
abbrev rmX4_now : Room := { frames := 6, cells := 0, slots := 0, locals := 133 }
theorem nf_X4_now_f19 : Cond.fieldLink RX4 19 "RepeatIndex" "book" "LRepeatIndex$Book;" ∈ wsX4_now := by decide +kernel
theorem ni_X4_now_X4 : ∀ w ∈ u_ws RX4 TX4 7, w ∈ wsX4_now := by decide +kernel
theorem nf_X4_now_f82 : Cond.fieldLink RX4 82 "RepeatIndex$Book" "months" "I" ∈ wsX4_now := by decide +kernel
theorem ni_X4_now_X0 : ∀ w ∈ u_ws RX0 TX0 5, w ∈ wsX4_now := by decide +kernel
theorem nf_X4_now_f85 : Cond.fieldLink RX4 85 "RepeatIndex$Book" "homes" "I" ∈ wsX4_now := by decide +kernel
theorem nf_X4_now_f88 : Cond.fieldLink RX4 88 "RepeatIndex$Book" "sales" "I" ∈ wsX4_now := by decide +kernel
theorem nf_X4_now_f95 : Cond.fieldLink RX4 95 "RepeatIndex$Fit" "pairs" "I" ∈ wsX4_now := by decide +kernel
theorem ni_X4_now_X1 : ∀ w ∈ u_ws RX1 TX1 8, w ∈ wsX4_now := by decide +kernel
theorem nf_X4_now_f43 : Cond.fieldLink RX4 43 "RepeatIndex" "history" "LRepeatIndex$History;" ∈ wsX4_now := by decide +kernel
theorem nf_X4_now_f102 : Cond.fieldLink RX4 102 "RepeatIndex$History" "count" "I" ∈ wsX4_now := by decide +kernel
theorem ni_X4_now_X2 : ∀ w ∈ u_ws RX2 TX2 3, w ∈ wsX4_now := by decide +kernel
theorem nf_X4_now_f12 : Cond.fieldLink RX4 12 "RepeatIndex" "tape" "LRepeatIndex$Tape;" ∈ wsX4_now := by decide +kernel
theorem nf_X4_now_f55 : Cond.fieldLink RX4 55 "RepeatIndex$Tape" "length" "I" ∈ wsX4_now := by decide +kernel
theorem ni_X4_now_X3 : ∀ w ∈ u_ws RX3 TX3 11, w ∈ wsX4_now := by decide +kernel
set_option maxHeartbeats 4000000 in
set_option maxRecDepth 100000 in
theorem kX4_now {l : Launch} {D : va_G} {cy : Nat → ClassId} {ad : Nat → Nat} {E : ke_T} (hEE : km_E E) {x1 : Int32} {S : RSt} {r : Int32} {S' : RSt} (h : fX4_now x1 S = some (r, S')) : km_i l D (rw_t cy) (rw_w cy ad) E yX4_now wsX4_now rmX4_now [.ref (ad 17), .int x1] S r S' := by
  refine km_i_in (cc := cX4_now) (nL := 2) hEE (by decide) rfl (Nat.le_of_ble_eq_true rfl) ?_
  intro p e s m below meth c A H ls C hP hD hS hl
  have C : km_C p s m _ meth c cX4_now 2 RX4 wsX4_now (some .int) D (rw_t cy) E A := C
  obtain ⟨⟨hx, hb, hml, hown, hts⟩, hr, hlk, hK, hA, hE, hEE⟩ := id C
  have hl : lv_has ls 2 [(0, .ref (ad 17)), (1, .int x1)] := hl
  unfold fX4_now at h
  refine lv_iload_n hx hb dX4_now_0 rfl (lv_at hl 1 rfl) ?_
  by_cases c_1 : x1 = (0 : Int32)
  · have h := ob_t c_1 h
    refine lv_tableIn (tgt := 44) (off := 43) hx hb dX4_now_1 (by rw [c_1]; decide) (by rw [c_1]; decide) (by rw [c_1]; decide) (by decide) ?_
    refine lv_aload_n hx hb dX4_now_44 rfl (lv_at hl 0 rfl) ?_
    refine va_get (D := D) (ci := 4) (v := .ref (ad 0)) (C := RX4) (T := TX4) (N := 7) hx hb hts ni_X4_now_X4 hown hK hP 17 rw_Main rfl 1 (by decide) (hts _ nf_X4_now_f19) (fun _ h9 => h9) rfl dX4_now_45 ?_
    refine va_get (D := D) (ci := 0) (v := .int (st_i S (3 * 0))) (C := RX0) (T := TX0) (N := 5) hx hb hts ni_X4_now_X0 hown hK hP 0 (rw_Book (by decide : 0 < 13)) rfl 0 (by decide) (hts _ nf_X4_now_f82) (fun _ h9 => h9) rfl dX4_now_48 ?_
    obtain ⟨rfl, rfl⟩ := ob_w h
    exact km_iret C hP hD hS dX4_now_51
  have h := ob_f c_1 h
  by_cases c_2 : x1 = (1 : Int32)
  · have h := ob_t c_2 h
    refine lv_tableIn (tgt := 52) (off := 51) hx hb dX4_now_1 (by rw [c_2]; decide) (by rw [c_2]; decide) (by rw [c_2]; decide) (by decide) ?_
    refine lv_aload_n hx hb dX4_now_52 rfl (lv_at hl 0 rfl) ?_
    refine va_get (D := D) (ci := 4) (v := .ref (ad 0)) (C := RX4) (T := TX4) (N := 7) hx hb hts ni_X4_now_X4 hown hK hP 17 rw_Main rfl 1 (by decide) (hts _ nf_X4_now_f19) (fun _ h9 => h9) rfl dX4_now_53 ?_
    refine va_get (D := D) (ci := 0) (v := .int (st_i S (3 * 0 + 1))) (C := RX0) (T := TX0) (N := 5) hx hb hts ni_X4_now_X0 hown hK hP 0 (rw_Book (by decide : 0 < 13)) rfl 1 (by decide) (hts _ nf_X4_now_f85) (fun _ h9 => h9) rfl dX4_now_56 ?_
    obtain ⟨rfl, rfl⟩ := ob_w h
    exact km_iret C hP hD hS dX4_now_59
  have h := ob_f c_2 h
  by_cases c_3 : x1 = (2 : Int32)
  · have h := ob_t c_3 h
    refine lv_tableIn (tgt := 60) (off := 59) hx hb dX4_now_1 (by rw [c_3]; decide) (by rw [c_3]; decide) (by rw [c_3]; decide) (by decide) ?_
    refine lv_aload_n hx hb dX4_now_60 rfl (lv_at hl 0 rfl) ?_
    refine va_get (D := D) (ci := 4) (v := .ref (ad 0)) (C := RX4) (T := TX4) (N := 7) hx hb hts ni_X4_now_X4 hown hK hP 17 rw_Main rfl 1 (by decide) (hts _ nf_X4_now_f19) (fun _ h9 => h9) rfl dX4_now_61 ?_
    refine va_get (D := D) (ci := 0) (v := .int (st_i S (3 * 0 + 2))) (C := RX0) (T := TX0) (N := 5) hx hb hts ni_X4_now_X0 hown hK hP 0 (rw_Book (by decide : 0 < 13)) rfl 2 (by decide) (hts _ nf_X4_now_f88) (fun _ h9 => h9) rfl dX4_now_64 ?_
    obtain ⟨rfl, rfl⟩ := ob_w h
    exact km_iret C hP hD hS dX4_now_67
  have h := ob_f c_3 h
  by_cases c_4 : x1 = (3 : Int32)
  · have h := ob_t c_4 h
    refine lv_tableIn (tgt := 68) (off := 67) hx hb dX4_now_1 (by rw [c_4]; decide) (by rw [c_4]; decide) (by rw [c_4]; decide) (by decide) ?_
    refine lv_aload_n hx hb dX4_now_68 rfl (lv_at hl 0 rfl) ?_
    obtain ⟨S_7, hc_5, h⟩ := ob_1s h
    refine km_cVr (As := []) (rest := []) C (kX4_fitNow hEE hc_5) (cwV 0 hts gX4_now_X4_fitNow rfl rfl rfl (by decide +kernel) ⟨(Nat.le_of_ble_eq_true rfl), (Nat.le_of_ble_eq_true rfl)⟩) rw_Main rfl rfl rfl hP hD hS hl.1 rfl (Nat.le_of_ble_eq_true rfl) dX4_now_69 (fun H locs hP hD hS => ?_)
    refine va_get (D := D) (ci := 1) (v := .int (st_i S_7 (40 + 2 * 0))) (C := RX1) (T := TX1) (N := 8) hx hb hts ni_X4_now_X1 hown hK hP (13 + 0) (rw_Fit (by decide : 0 < 2)) rfl 1 (by decide) (hts _ nf_X4_now_f95) (fun _ h9 => h9) rfl dX4_now_72 ?_
    obtain ⟨rfl, rfl⟩ := ob_w h
    exact km_iret C hP hD hS dX4_now_75
  have h := ob_f c_4 h
  by_cases c_8 : x1 = (4 : Int32)
  · have h := ob_t c_8 h
    refine lv_tableIn (tgt := 76) (off := 75) hx hb dX4_now_1 (by rw [c_8]; decide) (by rw [c_8]; decide) (by rw [c_8]; decide) (by decide) ?_
    refine lv_aload_n hx hb dX4_now_76 rfl (lv_at hl 0 rfl) ?_
    obtain ⟨S_11, hc_9, h⟩ := ob_1s h
    refine km_cVr (As := []) (rest := []) C (kX4_fitNow hEE hc_9) (cwV 0 hts gX4_now_X4_fitNow rfl rfl rfl (by decide +kernel) ⟨(Nat.le_of_ble_eq_true rfl), (Nat.le_of_ble_eq_true rfl)⟩) rw_Main rfl rfl rfl hP hD hS hl.1 rfl (Nat.le_of_ble_eq_true rfl) dX4_now_77 (fun H locs hP hD hS => ?_)
    obtain ⟨r_13, S_14, hc_12, h⟩ := ob_2s h
    refine km_cVi (As := []) (rest := []) C (kX1_countParts hEE (by decide : 0 < 2) hc_12) (cwV 0 hts gX4_now_X1_countParts rfl rfl rfl (by decide +kernel) ⟨(Nat.le_of_ble_eq_true rfl), (Nat.le_of_ble_eq_true rfl)⟩) (rw_Fit (by decide : 0 < 2)) rfl rfl rfl hP hD hS hl.1 rfl (Nat.le_of_ble_eq_true rfl) dX4_now_80 (fun H locs hP hD hS => ?_)
    obtain ⟨rfl, rfl⟩ := ob_w h
    exact km_iret C hP hD hS dX4_now_83
  have h := ob_f c_8 h
  by_cases c_15 : x1 = (5 : Int32)
  · have h := ob_t c_15 h
    refine lv_tableIn (tgt := 84) (off := 83) hx hb dX4_now_1 (by rw [c_15]; decide) (by rw [c_15]; decide) (by rw [c_15]; decide) (by decide) ?_
    refine lv_aload_n hx hb dX4_now_84 rfl (lv_at hl 0 rfl) ?_
    refine va_get (D := D) (ci := 4) (v := .ref (ad 15)) (C := RX4) (T := TX4) (N := 7) hx hb hts ni_X4_now_X4 hown hK hP 17 rw_Main rfl 6 (by decide) (hts _ nf_X4_now_f43) (fun _ h9 => h9) rfl dX4_now_85 ?_
    refine va_get (D := D) (ci := 2) (v := .int (st_i S 43)) (C := RX2) (T := TX2) (N := 3) hx hb hts ni_X4_now_X2 hown hK hP 15 rw_Hist rfl 0 (by decide) (hts _ nf_X4_now_f102) (fun _ h9 => h9) rfl dX4_now_88 ?_
    obtain ⟨rfl, rfl⟩ := ob_w h
    exact km_iret C hP hD hS dX4_now_91
  have h := ob_f c_15 h
  by_cases c_16 : x1 = (6 : Int32)
  · have h := ob_t c_16 h
    refine lv_tableIn (tgt := 92) (off := 91) hx hb dX4_now_1 (by rw [c_16]; decide) (by rw [c_16]; decide) (by rw [c_16]; decide) (by decide) ?_
    refine lv_aload_n hx hb dX4_now_92 rfl (lv_at hl 0 rfl) ?_
    refine va_get (D := D) (ci := 4) (v := .ref (ad 16)) (C := RX4) (T := TX4) (N := 7) hx hb hts ni_X4_now_X4 hown hK hP 17 rw_Main rfl 0 (by decide) (hts _ nf_X4_now_f12) (fun _ h9 => h9) rfl dX4_now_93 ?_
    refine va_get (D := D) (ci := 3) (v := .int (st_i S 45)) (C := RX3) (T := TX3) (N := 11) hx hb hts ni_X4_now_X3 hown hK hP 16 rw_Tape rfl 0 (by decide) (hts _ nf_X4_now_f55) (fun _ h9 => h9) rfl dX4_now_96 ?_
    obtain ⟨rfl, rfl⟩ := ob_w h
    exact km_iret C hP hD hS dX4_now_99
  have h := ob_f c_16 h
  refine lv_tableOut (tgt := 100) hx hb dX4_now_1 (by have z := sw_no (x1); have z0 := sw_ne c_1 (z := 0) (by decide); have z1 := sw_ne c_2 (z := 1) (by decide); have z2 := sw_ne c_3 (z := 2) (by decide); have z3 := sw_ne c_4 (z := 3) (by decide); have z4 := sw_ne c_8 (z := 4) (by decide); have z5 := sw_ne c_15 (z := 5) (by decide); have z6 := sw_ne c_16 (z := 6) (by decide); omega) (by decide) ?_
  refine lv_iconst (v := -1) hx hb dX4_now_100 (by decide) ?_
  obtain ⟨rfl, rfl⟩ := ob_w h
  exact km_iret C hP hD hS dX4_now_101
def fX4_level (x1 : Int32) (x2 : Int32) (S : RSt) : Option (Int32 × RSt) := (ob_2 (fX0_levelAt 0 x1 x2 S) fun r_2 S_3 => (some (r_2, S_3)))
abbrev rmX4_level : Room := { frames := 2, cells := 0, slots := 0, locals := 43 }
theorem nf_X4_level_f19 : Cond.fieldLink RX4 19 "RepeatIndex" "book" "LRepeatIndex$Book;" ∈ wsX4_level := by decide +kernel
theorem ni_X4_level_X4 : ∀ w ∈ u_ws RX4 TX4 7, w ∈ wsX4_level := by decide +kernel
set_option maxHeartbeats 4000000 in
set_option maxRecDepth 100000 in
theorem kX4_level {l : Launch} {D : va_G} {cy : Nat → ClassId} {ad : Nat → Nat} {E : ke_T} (hEE : km_E E) {x1 : Int32} {x2 : Int32} {S : RSt} {r : Int32} {S' : RSt} (h : fX4_level x1 x2 S = some (r, S')) : km_i l D (rw_t cy) (rw_w cy ad) E yX4_level wsX4_level rmX4_level [.ref (ad 17), .int x1, .int x2] S r S' := by
  refine km_i_in (cc := cX4_level) (nL := 3) hEE (by decide) rfl (Nat.le_of_ble_eq_true rfl) ?_
  intro p e s m below meth c A H ls C hP hD hS hl
  have C : km_C p s m _ meth c cX4_level 3 RX4 wsX4_level (some .int) D (rw_t cy) E A := C
  obtain ⟨⟨hx, hb, hml, hown, hts⟩, hr, hlk, hK, hA, hE, hEE⟩ := id C
  have hl : lv_has ls 3 [(0, .ref (ad 17)), (1, .int x1), (2, .int x2)] := hl
  unfold fX4_level at h
  refine lv_aload_n hx hb dX4_level_0 rfl (lv_at hl 0 rfl) ?_
  refine va_get (D := D) (ci := 4) (v := .ref (ad 0)) (C := RX4) (T := TX4) (N := 7) hx hb hts ni_X4_level_X4 hown hK hP 17 rw_Main rfl 1 (by decide) (hts _ nf_X4_level_f19) (fun _ h9 => h9) rfl dX4_level_1 ?_
  refine lv_iload_n hx hb dX4_level_4 rfl (lv_at hl 1 rfl) ?_
  refine lv_iload_n hx hb dX4_level_5 rfl (lv_at hl 2 rfl) ?_
  obtain ⟨r_2, S_3, hc_1, h⟩ := ob_2s h
  refine km_cVi (As := [.int x1, .int x2]) (rest := []) C (kX0_levelAt hEE (by decide : 0 < 13) hc_1) (cwV 2 hts gX4_level_X0_levelAt rfl rfl rfl (by decide +kernel) ⟨(Nat.le_of_ble_eq_true rfl), (Nat.le_of_ble_eq_true rfl)⟩) (rw_Book (by decide : 0 < 13)) rfl rfl rfl hP hD hS hl.1 rfl (Nat.le_of_ble_eq_true rfl) dX4_level_6 (fun H locs hP hD hS => ?_)
  obtain ⟨rfl, rfl⟩ := ob_w h
  exact km_iret C hP hD hS dX4_level_9
def fX4_part (x1 : Int32) (S : RSt) : Option (Int32 × RSt) := (ob_2 (fX0_hasMonth 0 x1 S) fun r_2 S_3 => (if r_2 = 0 then (some ((-1 : Int32), S_3)) else (ob_1 (fX4_fitNow S_3) fun S_8 => (ob_in x1 8 (some (st_a S_8 (26 + 0) x1.toNatClampNeg, S_8))))))
abbrev rmX4_part : Room := { frames := 6, cells := 0, slots := 0, locals := 133 }
theorem nf_X4_part_f19 : Cond.fieldLink RX4 19 "RepeatIndex" "book" "LRepeatIndex$Book;" ∈ wsX4_part := by decide +kernel
theorem ni_X4_part_X4 : ∀ w ∈ u_ws RX4 TX4 7, w ∈ wsX4_part := by decide +kernel
theorem nf_X4_part_f122 : Cond.fieldLink RX4 122 "RepeatIndex$Fit" "parts" "[I" ∈ wsX4_part := by decide +kernel
theorem ni_X4_part_X1 : ∀ w ∈ u_ws RX1 TX1 8, w ∈ wsX4_part := by decide +kernel
set_option maxHeartbeats 4000000 in
set_option maxRecDepth 100000 in
theorem kX4_part {l : Launch} {D : va_G} {cy : Nat → ClassId} {ad : Nat → Nat} {E : ke_T} (hEE : km_E E) {x1 : Int32} {S : RSt} {r : Int32} {S' : RSt} (h : fX4_part x1 S = some (r, S')) : km_i l D (rw_t cy) (rw_w cy ad) E yX4_part wsX4_part rmX4_part [.ref (ad 17), .int x1] S r S' := by
  refine km_i_in (cc := cX4_part) (nL := 2) hEE (by decide) rfl (Nat.le_of_ble_eq_true rfl) ?_
  intro p e s m below meth c A H ls C hP hD hS hl
  have C : km_C p s m _ meth c cX4_part 2 RX4 wsX4_part (some .int) D (rw_t cy) E A := C
  obtain ⟨⟨hx, hb, hml, hown, hts⟩, hr, hlk, hK, hA, hE, hEE⟩ := id C
  have hl : lv_has ls 2 [(0, .ref (ad 17)), (1, .int x1)] := hl
  unfold fX4_part at h
  refine lv_aload_n hx hb dX4_part_0 rfl (lv_at hl 0 rfl) ?_
  refine va_get (D := D) (ci := 4) (v := .ref (ad 0)) (C := RX4) (T := TX4) (N := 7) hx hb hts ni_X4_part_X4 hown hK hP 17 rw_Main rfl 1 (by decide) (hts _ nf_X4_part_f19) (fun _ h9 => h9) rfl dX4_part_1 ?_
  refine lv_iload_n hx hb dX4_part_4 rfl (lv_at hl 1 rfl) ?_
  obtain ⟨r_2, S_3, hc_1, h⟩ := ob_2s h
  refine km_cVz (As := [.int x1]) (rest := []) C (kX0_hasMonth hEE (by decide : 0 < 13) hc_1) (cwV 1 hts gX4_part_X0_hasMonth rfl rfl rfl (by decide +kernel) ⟨(Nat.le_of_ble_eq_true rfl), (Nat.le_of_ble_eq_true rfl)⟩) (rw_Book (by decide : 0 < 13)) rfl rfl rfl hP hD hS hl.1 rfl (Nat.le_of_ble_eq_true rfl) dX4_part_5 (fun H locs hP hD hS hz_4 => ?_)
  refine lv_if_ne (tgt := 13) hx hb dX4_part_8 (by decide) (fun c_5 => ?_) (fun c_5 => ?_)
  · have h := ob_f c_5 h
    refine lv_aload_n hx hb dX4_part_13 rfl (lv_at hl 0 rfl) ?_
    obtain ⟨S_8, hc_6, h⟩ := ob_1s h
    refine km_cVr (As := []) (rest := []) C (kX4_fitNow hEE hc_6) (cwV 0 hts gX4_part_X4_fitNow rfl rfl rfl (by decide +kernel) ⟨(Nat.le_of_ble_eq_true rfl), (Nat.le_of_ble_eq_true rfl)⟩) rw_Main rfl rfl rfl hP hD hS hl.1 rfl (Nat.le_of_ble_eq_true rfl) dX4_part_14 (fun H locs hP hD hS => ?_)
    refine va_get (D := D) (ci := 1) (v := .ref (ad (49 + 0))) (C := RX1) (T := TX1) (N := 8) hx hb hts ni_X4_part_X1 hown hK hP (13 + 0) (rw_Fit (by decide : 0 < 2)) rfl 3 (by decide) (hts _ nf_X4_part_f122) (fun _ h9 => h9) rfl dX4_part_17 ?_
    refine lv_iload_n hx hb dX4_part_20 rfl (lv_at hl 1 rfl) ?_
    obtain ⟨hv_9, h⟩ := ob_in_s h
    refine va_iald hx hb hK hP (49 + 0) 0 (rw_parts (by decide : 0 < 2)) rfl hv_9 dX4_part_21 ?_
    obtain ⟨rfl, rfl⟩ := ob_w h
    exact km_iret C hP hD hS dX4_part_22
  · have h := ob_t c_5 h
    refine lv_iconst (v := -1) hx hb dX4_part_11 (by decide) ?_
    obtain ⟨rfl, rfl⟩ := ob_w h
    exact km_iret C hP hD hS dX4_part_12
def fX4_error (x1 : Int32) (S : RSt) : Option (Int64 × RSt) := (ob_1 (fX4_fitNow S) fun S_3 => (ob_2 (fX1_errorTop 0 S_3) fun r_5 S_6 => (ob_2 (fX4_lowestTerms r_5 (st_j S_6 0) x1 S_6) fun r_8 S_9 => (some (r_8, S_9)))))
abbrev rmX4_error : Room := { frames := 6, cells := 0, slots := 0, locals := 133 }
theorem nf_X4_error_f134 : Cond.fieldLink RX4 134 "RepeatIndex$Fit" "bottom" "J" ∈ wsX4_error := by decide +kernel
theorem ni_X4_error_X1 : ∀ w ∈ u_ws RX1 TX1 8, w ∈ wsX4_error := by decide +kernel
set_option maxHeartbeats 4000000 in
set_option maxRecDepth 100000 in
theorem kX4_error {l : Launch} {D : va_G} {cy : Nat → ClassId} {ad : Nat → Nat} {E : ke_T} (hEE : km_E E) {x1 : Int32} {S : RSt} {r : Int64} {S' : RSt} (h : fX4_error x1 S = some (r, S')) : km_l l D (rw_t cy) (rw_w cy ad) E yX4_error wsX4_error rmX4_error [.ref (ad 17), .int x1] S r S' := by
  refine km_l_in (cc := cX4_error) (nL := 3) hEE (by decide) rfl (Nat.le_of_ble_eq_true rfl) ?_
  intro p e s m below meth c A H ls C hP hD hS hl
  have C : km_C p s m _ meth c cX4_error 3 RX4 wsX4_error (some .long) D (rw_t cy) E A := C
  obtain ⟨⟨hx, hb, hml, hown, hts⟩, hr, hlk, hK, hA, hE, hEE⟩ := id C
  have hl : lv_has ls 3 [(0, .ref (ad 17)), (1, .int x1)] := hl
  unfold fX4_error at h
  refine lv_aload_n hx hb dX4_error_0 rfl (lv_at hl 0 rfl) ?_
  obtain ⟨S_3, hc_1, h⟩ := ob_1s h
  refine km_cVr (As := []) (rest := []) C (kX4_fitNow hEE hc_1) (cwV 0 hts gX4_error_X4_fitNow rfl rfl rfl (by decide +kernel) ⟨(Nat.le_of_ble_eq_true rfl), (Nat.le_of_ble_eq_true rfl)⟩) rw_Main rfl rfl rfl hP hD hS hl.1 rfl (Nat.le_of_ble_eq_true rfl) dX4_error_1 (fun H locs hP hD hS => ?_)
  refine lv_astore_n (lv' := [(2, .ref (ad (13 + 0))), (0, .ref (ad 17)), (1, .int x1)]) hx hb dX4_error_4 rfl hl (by decide) rfl (fun ls hl => ?_)
  refine lv_aload_n hx hb dX4_error_5 rfl (lv_at hl 0 rfl) ?_
  obtain ⟨r_5, S_6, hc_4, h⟩ := ob_2s h
  refine km_cVl (As := []) (rest := []) C (kX1_errorTop hEE (by decide : 0 < 2) hc_4) (cwV 0 hts gX4_error_X1_errorTop rfl rfl rfl (by decide +kernel) ⟨(Nat.le_of_ble_eq_true rfl), (Nat.le_of_ble_eq_true rfl)⟩) (rw_Fit (by decide : 0 < 2)) rfl rfl rfl hP hD hS hl.1 rfl (Nat.le_of_ble_eq_true rfl) dX4_error_6 (fun H locs hP hD hS => ?_)
  refine lv_aload_n hx hb dX4_error_9 rfl (lv_at hl 0 rfl) ?_
  refine va_get (D := D) (ci := 1) (v := .long (st_j S_6 0)) (C := RX1) (T := TX1) (N := 8) hx hb hts ni_X4_error_X1 hown hK hP (13 + 0) (rw_Fit (by decide : 0 < 2)) rfl 5 (by decide) (hts _ nf_X4_error_f134) (fun _ h9 => h9) rfl dX4_error_10 ?_
  refine lv_iload_n hx hb dX4_error_13 rfl (lv_at hl 2 rfl) ?_
  obtain ⟨r_8, S_9, hc_7, h⟩ := ob_2s h
  refine km_cSl (As := [.long r_5, .long (st_j S_6 0), .int x1]) (rest := []) C (kX4_lowestTerms hEE hc_7) (va_cwS 3 hts gX4_error_X4_lowestTerms rfl rfl rfl (by decide +kernel) ⟨(Nat.le_of_ble_eq_true rfl), (Nat.le_of_ble_eq_true rfl)⟩) rfl hP hD hS hl.1 rfl (Nat.le_of_ble_eq_true rfl) dX4_error_14 (fun H locs hP hD hS => ?_)
  obtain ⟨rfl, rfl⟩ := ob_w h
  exact km_lret C hP hD hS dX4_error_17
def fX4_worst (S : RSt) : Option (Int32 × RSt) := (ob_1 (fX4_fitNow S) fun S_3 => (ob_2 (fX1_findWorst 0 S_3) fun r_5 S_6 => (some (r_5, S_6))))
abbrev rmX4_worst : Room := { frames := 6, cells := 0, slots := 0, locals := 133 }
set_option maxHeartbeats 4000000 in
set_option maxRecDepth 100000 in
theorem kX4_worst {l : Launch} {D : va_G} {cy : Nat → ClassId} {ad : Nat → Nat} {E : ke_T} (hEE : km_E E) {S : RSt} {r : Int32} {S' : RSt} (h : fX4_worst S = some (r, S')) : km_i l D (rw_t cy) (rw_w cy ad) E yX4_worst wsX4_worst rmX4_worst [.ref (ad 17)] S r S' := by
  refine km_i_in (cc := cX4_worst) (nL := 1) hEE (by decide) rfl (Nat.le_of_ble_eq_true rfl) ?_
  intro p e s m below meth c A H ls C hP hD hS hl
  have C : km_C p s m _ meth c cX4_worst 1 RX4 wsX4_worst (some .int) D (rw_t cy) E A := C
  obtain ⟨⟨hx, hb, hml, hown, hts⟩, hr, hlk, hK, hA, hE, hEE⟩ := id C
  have hl : lv_has ls 1 [(0, .ref (ad 17))] := hl
  unfold fX4_worst at h
  refine lv_aload_n hx hb dX4_worst_0 rfl (lv_at hl 0 rfl) ?_
  obtain ⟨S_3, hc_1, h⟩ := ob_1s h
  refine km_cVr (As := []) (rest := []) C (kX4_fitNow hEE hc_1) (cwV 0 hts gX4_worst_X4_fitNow rfl rfl rfl (by decide +kernel) ⟨(Nat.le_of_ble_eq_true rfl), (Nat.le_of_ble_eq_true rfl)⟩) rw_Main rfl rfl rfl hP hD hS hl.1 rfl (Nat.le_of_ble_eq_true rfl) dX4_worst_1 (fun H locs hP hD hS => ?_)
  obtain ⟨r_5, S_6, hc_4, h⟩ := ob_2s h
  refine km_cVi (As := []) (rest := []) C (kX1_findWorst hEE (by decide : 0 < 2) hc_4) (cwV 0 hts gX4_worst_X1_findWorst rfl rfl rfl (by decide +kernel) ⟨(Nat.le_of_ble_eq_true rfl), (Nat.le_of_ble_eq_true rfl)⟩) (rw_Fit (by decide : 0 < 2)) rfl rfl rfl hP hD hS hl.1 rfl (Nat.le_of_ble_eq_true rfl) dX4_worst_4 (fun H locs hP hD hS => ?_)
  obtain ⟨rfl, rfl⟩ := ob_w h
  exact km_iret C hP hD hS dX4_worst_7
def fX4_home (S : RSt) : Option (Int32 × RSt) := (if (st_i S (3 * 0 + 1)) < (6 : Int32) then (ob_1 (fX4_beginAct S) fun S_4 => (ob_2 (fX0_addHome 0 S_4) fun r_6 S_7 => (some (r_6, S_7)))) else (some ((-2 : Int32), S)))
abbrev rmX4_home : Room := { frames := 4, cells := 0, slots := 0, locals := 122 }
theorem nf_X4_home_f19 : Cond.fieldLink RX4 19 "RepeatIndex" "book" "LRepeatIndex$Book;" ∈ wsX4_home := by decide +kernel
theorem ni_X4_home_X4 : ∀ w ∈ u_ws RX4 TX4 7, w ∈ wsX4_home := by decide +kernel
theorem nf_X4_home_f85 : Cond.fieldLink RX4 85 "RepeatIndex$Book" "homes" "I" ∈ wsX4_home := by decide +kernel
theorem ni_X4_home_X0 : ∀ w ∈ u_ws RX0 TX0 5, w ∈ wsX4_home := by decide +kernel
set_option maxHeartbeats 4000000 in
set_option maxRecDepth 100000 in
theorem kX4_home {l : Launch} {D : va_G} {cy : Nat → ClassId} {ad : Nat → Nat} {E : ke_T} (hEE : km_E E) {S : RSt} {r : Int32} {S' : RSt} (h : fX4_home S = some (r, S')) : km_i l D (rw_t cy) (rw_w cy ad) E yX4_home wsX4_home rmX4_home [.ref (ad 17)] S r S' := by
  refine km_i_in (cc := cX4_home) (nL := 1) hEE (by decide) rfl (Nat.le_of_ble_eq_true rfl) ?_
  intro p e s m below meth c A H ls C hP hD hS hl
  have C : km_C p s m _ meth c cX4_home 1 RX4 wsX4_home (some .int) D (rw_t cy) E A := C
  obtain ⟨⟨hx, hb, hml, hown, hts⟩, hr, hlk, hK, hA, hE, hEE⟩ := id C
  have hl : lv_has ls 1 [(0, .ref (ad 17))] := hl
  unfold fX4_home at h
  refine lv_aload_n hx hb dX4_home_0 rfl (lv_at hl 0 rfl) ?_
  refine va_get (D := D) (ci := 4) (v := .ref (ad 0)) (C := RX4) (T := TX4) (N := 7) hx hb hts ni_X4_home_X4 hown hK hP 17 rw_Main rfl 1 (by decide) (hts _ nf_X4_home_f19) (fun _ h9 => h9) rfl dX4_home_1 ?_
  refine va_get (D := D) (ci := 0) (v := .int (st_i S (3 * 0 + 1))) (C := RX0) (T := TX0) (N := 5) hx hb hts ni_X4_home_X0 hown hK hP 0 (rw_Book (by decide : 0 < 13)) rfl 1 (by decide) (hts _ nf_X4_home_f85) (fun _ h9 => h9) rfl dX4_home_4 ?_
  refine lv_bipush (v := 6) hx hb dX4_home_7 (by decide) ?_
  refine lv_icmp_lt (tgt := 15) hx hb dX4_home_9 (by decide) (fun c_1 => ?_) (fun c_1 => ?_)
  · have h := ob_t c_1 h
    refine lv_aload_n hx hb dX4_home_15 rfl (lv_at hl 0 rfl) ?_
    obtain ⟨S_4, hc_2, h⟩ := ob_1s h
    refine km_cVv (As := []) (rest := []) C (kX4_beginAct hEE hc_2) (cwV 0 hts gX4_home_X4_beginAct rfl rfl rfl (by decide +kernel) ⟨(Nat.le_of_ble_eq_true rfl), (Nat.le_of_ble_eq_true rfl)⟩) rw_Main rfl rfl rfl hP hD hS hl.1 rfl (Nat.le_of_ble_eq_true rfl) dX4_home_16 (fun H locs hP hD hS => ?_)
    refine lv_aload_n hx hb dX4_home_19 rfl (lv_at hl 0 rfl) ?_
    refine va_get (D := D) (ci := 4) (v := .ref (ad 0)) (C := RX4) (T := TX4) (N := 7) hx hb hts ni_X4_home_X4 hown hK hP 17 rw_Main rfl 1 (by decide) (hts _ nf_X4_home_f19) (fun _ h9 => h9) rfl dX4_home_20 ?_
    obtain ⟨r_6, S_7, hc_5, h⟩ := ob_2s h
    refine km_cVi (As := []) (rest := []) C (kX0_addHome hEE (by decide : 0 < 13) hc_5) (cwV 0 hts gX4_home_X0_addHome rfl rfl rfl (by decide +kernel) ⟨(Nat.le_of_ble_eq_true rfl), (Nat.le_of_ble_eq_true rfl)⟩) (rw_Book (by decide : 0 < 13)) rfl rfl rfl hP hD hS hl.1 rfl (Nat.le_of_ble_eq_true rfl) dX4_home_23 (fun H locs hP hD hS => ?_)
    obtain ⟨rfl, rfl⟩ := ob_w h
    exact km_iret C hP hD hS dX4_home_26
  · have h := ob_f c_1 h
    refine lv_bipush (v := -2) hx hb dX4_home_12 (by decide) ?_
    obtain ⟨rfl, rfl⟩ := ob_w h
    exact km_iret C hP hD hS dX4_home_14
def fX4_sale (x1 : Int32) (x2 : Int32) (x3 : Int32) (S : RSt) : Option (Int32 × RSt) := (ob_2 (fX0_canTake 0 x1 x2 x3 S) fun r_2 S_3 => (if r_2 = 0 then (some ((-1 : Int32), S_3)) else (if (st_i S_3 (3 * 0 + 2)) < (18 : Int32) then (ob_1 (fX4_beginAct S_3) fun S_9 => (ob_1 (fX0_putSale 0 x1 x2 x3 S_9) fun S_12 => (some (st_i S_12 (3 * 0 + 2), S_12)))) else (some ((-2 : Int32), S_3)))))
abbrev rmX4_sale : Room := { frames := 4, cells := 0, slots := 0, locals := 122 }
theorem nf_X4_sale_f19 : Cond.fieldLink RX4 19 "RepeatIndex" "book" "LRepeatIndex$Book;" ∈ wsX4_sale := by decide +kernel
theorem ni_X4_sale_X4 : ∀ w ∈ u_ws RX4 TX4 7, w ∈ wsX4_sale := by decide +kernel
theorem nf_X4_sale_f88 : Cond.fieldLink RX4 88 "RepeatIndex$Book" "sales" "I" ∈ wsX4_sale := by decide +kernel
theorem ni_X4_sale_X0 : ∀ w ∈ u_ws RX0 TX0 5, w ∈ wsX4_sale := by decide +kernel
set_option maxHeartbeats 4000000 in
set_option maxRecDepth 100000 in
theorem kX4_sale {l : Launch} {D : va_G} {cy : Nat → ClassId} {ad : Nat → Nat} {E : ke_T} (hEE : km_E E) {x1 : Int32} {x2 : Int32} {x3 : Int32} {S : RSt} {r : Int32} {S' : RSt} (h : fX4_sale x1 x2 x3 S = some (r, S')) : km_i l D (rw_t cy) (rw_w cy ad) E yX4_sale wsX4_sale rmX4_sale [.ref (ad 17), .int x1, .int x2, .int x3] S r S' := by
  refine km_i_in (cc := cX4_sale) (nL := 4) hEE (by decide) rfl (Nat.le_of_ble_eq_true rfl) ?_
  intro p e s m below meth c A H ls C hP hD hS hl
  have C : km_C p s m _ meth c cX4_sale 4 RX4 wsX4_sale (some .int) D (rw_t cy) E A := C
  obtain ⟨⟨hx, hb, hml, hown, hts⟩, hr, hlk, hK, hA, hE, hEE⟩ := id C
  have hl : lv_has ls 4 [(0, .ref (ad 17)), (1, .int x1), (2, .int x2), (3, .int x3)] := hl
  unfold fX4_sale at h
  refine lv_aload_n hx hb dX4_sale_0 rfl (lv_at hl 0 rfl) ?_
  refine va_get (D := D) (ci := 4) (v := .ref (ad 0)) (C := RX4) (T := TX4) (N := 7) hx hb hts ni_X4_sale_X4 hown hK hP 17 rw_Main rfl 1 (by decide) (hts _ nf_X4_sale_f19) (fun _ h9 => h9) rfl dX4_sale_1 ?_
  refine lv_iload_n hx hb dX4_sale_4 rfl (lv_at hl 1 rfl) ?_
  refine lv_iload_n hx hb dX4_sale_5 rfl (lv_at hl 2 rfl) ?_
  refine lv_iload_n hx hb dX4_sale_6 rfl (lv_at hl 3 rfl) ?_
  obtain ⟨r_2, S_3, hc_1, h⟩ := ob_2s h
  refine km_cVz (As := [.int x1, .int x2, .int x3]) (rest := []) C (kX0_canTake hEE (by decide : 0 < 13) hc_1) (cwV 3 hts gX4_sale_X0_canTake rfl rfl rfl (by decide +kernel) ⟨(Nat.le_of_ble_eq_true rfl), (Nat.le_of_ble_eq_true rfl)⟩) (rw_Book (by decide : 0 < 13)) rfl rfl rfl hP hD hS hl.1 rfl (Nat.le_of_ble_eq_true rfl) dX4_sale_7 (fun H locs hP hD hS hz_4 => ?_)
  refine lv_if_ne (tgt := 15) hx hb dX4_sale_10 (by decide) (fun c_5 => ?_) (fun c_5 => ?_)
  · have h := ob_f c_5 h
    refine lv_aload_n hx hb dX4_sale_15 rfl (lv_at hl 0 rfl) ?_
    refine va_get (D := D) (ci := 4) (v := .ref (ad 0)) (C := RX4) (T := TX4) (N := 7) hx hb hts ni_X4_sale_X4 hown hK hP 17 rw_Main rfl 1 (by decide) (hts _ nf_X4_sale_f19) (fun _ h9 => h9) rfl dX4_sale_16 ?_
    refine va_get (D := D) (ci := 0) (v := .int (st_i S_3 (3 * 0 + 2))) (C := RX0) (T := TX0) (N := 5) hx hb hts ni_X4_sale_X0 hown hK hP 0 (rw_Book (by decide : 0 < 13)) rfl 2 (by decide) (hts _ nf_X4_sale_f88) (fun _ h9 => h9) rfl dX4_sale_19 ?_
    refine lv_bipush (v := 18) hx hb dX4_sale_22 (by decide) ?_
    refine lv_icmp_lt (tgt := 30) hx hb dX4_sale_24 (by decide) (fun c_6 => ?_) (fun c_6 => ?_)
    · have h := ob_t c_6 h
      refine lv_aload_n hx hb dX4_sale_30 rfl (lv_at hl 0 rfl) ?_
      obtain ⟨S_9, hc_7, h⟩ := ob_1s h
      refine km_cVv (As := []) (rest := []) C (kX4_beginAct hEE hc_7) (cwV 0 hts gX4_sale_X4_beginAct rfl rfl rfl (by decide +kernel) ⟨(Nat.le_of_ble_eq_true rfl), (Nat.le_of_ble_eq_true rfl)⟩) rw_Main rfl rfl rfl hP hD hS hl.1 rfl (Nat.le_of_ble_eq_true rfl) dX4_sale_31 (fun H locs hP hD hS => ?_)
      refine lv_aload_n hx hb dX4_sale_34 rfl (lv_at hl 0 rfl) ?_
      refine va_get (D := D) (ci := 4) (v := .ref (ad 0)) (C := RX4) (T := TX4) (N := 7) hx hb hts ni_X4_sale_X4 hown hK hP 17 rw_Main rfl 1 (by decide) (hts _ nf_X4_sale_f19) (fun _ h9 => h9) rfl dX4_sale_35 ?_
      refine lv_iload_n hx hb dX4_sale_38 rfl (lv_at hl 1 rfl) ?_
      refine lv_iload_n hx hb dX4_sale_39 rfl (lv_at hl 2 rfl) ?_
      refine lv_iload_n hx hb dX4_sale_40 rfl (lv_at hl 3 rfl) ?_
      obtain ⟨S_12, hc_10, h⟩ := ob_1s h
      refine km_cVv (As := [.int x1, .int x2, .int x3]) (rest := []) C (kX0_putSale hEE (by decide : 0 < 13) hc_10) (cwV 3 hts gX4_sale_X0_putSale rfl rfl rfl (by decide +kernel) ⟨(Nat.le_of_ble_eq_true rfl), (Nat.le_of_ble_eq_true rfl)⟩) (rw_Book (by decide : 0 < 13)) rfl rfl rfl hP hD hS hl.1 rfl (Nat.le_of_ble_eq_true rfl) dX4_sale_41 (fun H locs hP hD hS => ?_)
      refine lv_aload_n hx hb dX4_sale_44 rfl (lv_at hl 0 rfl) ?_
      refine va_get (D := D) (ci := 4) (v := .ref (ad 0)) (C := RX4) (T := TX4) (N := 7) hx hb hts ni_X4_sale_X4 hown hK hP 17 rw_Main rfl 1 (by decide) (hts _ nf_X4_sale_f19) (fun _ h9 => h9) rfl dX4_sale_45 ?_
      refine va_get (D := D) (ci := 0) (v := .int (st_i S_12 (3 * 0 + 2))) (C := RX0) (T := TX0) (N := 5) hx hb hts ni_X4_sale_X0 hown hK hP 0 (rw_Book (by decide : 0 < 13)) rfl 2 (by decide) (hts _ nf_X4_sale_f88) (fun _ h9 => h9) rfl dX4_sale_48 ?_
      obtain ⟨rfl, rfl⟩ := ob_w h
      exact km_iret C hP hD hS dX4_sale_51
    · have h := ob_f c_6 h
      refine lv_bipush (v := -2) hx hb dX4_sale_27 (by decide) ?_
      obtain ⟨rfl, rfl⟩ := ob_w h
      exact km_iret C hP hD hS dX4_sale_29
  · have h := ob_t c_5 h
    refine lv_iconst (v := -1) hx hb dX4_sale_13 (by decide) ?_
    obtain ⟨rfl, rfl⟩ := ob_w h
    exact km_iret C hP hD hS dX4_sale_14
def fX4_drop (x1 : Int32) (x2 : Int32) (S : RSt) : Option (Int32 × RSt) := (ob_2 (fX0_levelAt 0 x1 x2 S) fun r_2 S_3 => (if r_2 = (-1 : Int32) then (some ((-1 : Int32), S_3)) else (ob_1 (fX4_beginAct S_3) fun S_7 => (ob_1 (fX0_takeSale 0 x1 x2 S_7) fun S_10 => (some (st_i S_10 (3 * 0 + 2), S_10))))))
abbrev rmX4_drop : Room := { frames := 4, cells := 0, slots := 0, locals := 122 }
theorem nf_X4_drop_f19 : Cond.fieldLink RX4 19 "RepeatIndex" "book" "LRepeatIndex$Book;" ∈ wsX4_drop := by decide +kernel
theorem ni_X4_drop_X4 : ∀ w ∈ u_ws RX4 TX4 7, w ∈ wsX4_drop := by decide +kernel
theorem nf_X4_drop_f88 : Cond.fieldLink RX4 88 "RepeatIndex$Book" "sales" "I" ∈ wsX4_drop := by decide +kernel
theorem ni_X4_drop_X0 : ∀ w ∈ u_ws RX0 TX0 5, w ∈ wsX4_drop := by decide +kernel
set_option maxHeartbeats 4000000 in
set_option maxRecDepth 100000 in
theorem kX4_drop {l : Launch} {D : va_G} {cy : Nat → ClassId} {ad : Nat → Nat} {E : ke_T} (hEE : km_E E) {x1 : Int32} {x2 : Int32} {S : RSt} {r : Int32} {S' : RSt} (h : fX4_drop x1 x2 S = some (r, S')) : km_i l D (rw_t cy) (rw_w cy ad) E yX4_drop wsX4_drop rmX4_drop [.ref (ad 17), .int x1, .int x2] S r S' := by
  refine km_i_in (cc := cX4_drop) (nL := 3) hEE (by decide) rfl (Nat.le_of_ble_eq_true rfl) ?_
  intro p e s m below meth c A H ls C hP hD hS hl
  have C : km_C p s m _ meth c cX4_drop 3 RX4 wsX4_drop (some .int) D (rw_t cy) E A := C
  obtain ⟨⟨hx, hb, hml, hown, hts⟩, hr, hlk, hK, hA, hE, hEE⟩ := id C
  have hl : lv_has ls 3 [(0, .ref (ad 17)), (1, .int x1), (2, .int x2)] := hl
  unfold fX4_drop at h
  refine lv_aload_n hx hb dX4_drop_0 rfl (lv_at hl 0 rfl) ?_
  refine va_get (D := D) (ci := 4) (v := .ref (ad 0)) (C := RX4) (T := TX4) (N := 7) hx hb hts ni_X4_drop_X4 hown hK hP 17 rw_Main rfl 1 (by decide) (hts _ nf_X4_drop_f19) (fun _ h9 => h9) rfl dX4_drop_1 ?_
  refine lv_iload_n hx hb dX4_drop_4 rfl (lv_at hl 1 rfl) ?_
  refine lv_iload_n hx hb dX4_drop_5 rfl (lv_at hl 2 rfl) ?_
  obtain ⟨r_2, S_3, hc_1, h⟩ := ob_2s h
  refine km_cVi (As := [.int x1, .int x2]) (rest := []) C (kX0_levelAt hEE (by decide : 0 < 13) hc_1) (cwV 2 hts gX4_drop_X0_levelAt rfl rfl rfl (by decide +kernel) ⟨(Nat.le_of_ble_eq_true rfl), (Nat.le_of_ble_eq_true rfl)⟩) (rw_Book (by decide : 0 < 13)) rfl rfl rfl hP hD hS hl.1 rfl (Nat.le_of_ble_eq_true rfl) dX4_drop_6 (fun H locs hP hD hS => ?_)
  refine lv_iconst (v := -1) hx hb dX4_drop_9 (by decide) ?_
  refine lv_icmp_ne (tgt := 15) hx hb dX4_drop_10 (by decide) (fun c_4 => ?_) (fun c_4 => ?_)
  · have h := ob_f c_4 h
    refine lv_aload_n hx hb dX4_drop_15 rfl (lv_at hl 0 rfl) ?_
    obtain ⟨S_7, hc_5, h⟩ := ob_1s h
    refine km_cVv (As := []) (rest := []) C (kX4_beginAct hEE hc_5) (cwV 0 hts gX4_drop_X4_beginAct rfl rfl rfl (by decide +kernel) ⟨(Nat.le_of_ble_eq_true rfl), (Nat.le_of_ble_eq_true rfl)⟩) rw_Main rfl rfl rfl hP hD hS hl.1 rfl (Nat.le_of_ble_eq_true rfl) dX4_drop_16 (fun H locs hP hD hS => ?_)
    refine lv_aload_n hx hb dX4_drop_19 rfl (lv_at hl 0 rfl) ?_
    refine va_get (D := D) (ci := 4) (v := .ref (ad 0)) (C := RX4) (T := TX4) (N := 7) hx hb hts ni_X4_drop_X4 hown hK hP 17 rw_Main rfl 1 (by decide) (hts _ nf_X4_drop_f19) (fun _ h9 => h9) rfl dX4_drop_20 ?_
    refine lv_iload_n hx hb dX4_drop_23 rfl (lv_at hl 1 rfl) ?_
    refine lv_iload_n hx hb dX4_drop_24 rfl (lv_at hl 2 rfl) ?_
    obtain ⟨S_10, hc_8, h⟩ := ob_1s h
    refine km_cVv (As := [.int x1, .int x2]) (rest := []) C (kX0_takeSale hEE (by decide : 0 < 13) hc_8) (cwV 2 hts gX4_drop_X0_takeSale rfl rfl rfl (by decide +kernel) ⟨(Nat.le_of_ble_eq_true rfl), (Nat.le_of_ble_eq_true rfl)⟩) (rw_Book (by decide : 0 < 13)) rfl rfl rfl hP hD hS hl.1 rfl (Nat.le_of_ble_eq_true rfl) dX4_drop_25 (fun H locs hP hD hS => ?_)
    refine lv_aload_n hx hb dX4_drop_28 rfl (lv_at hl 0 rfl) ?_
    refine va_get (D := D) (ci := 4) (v := .ref (ad 0)) (C := RX4) (T := TX4) (N := 7) hx hb hts ni_X4_drop_X4 hown hK hP 17 rw_Main rfl 1 (by decide) (hts _ nf_X4_drop_f19) (fun _ h9 => h9) rfl dX4_drop_29 ?_
    refine va_get (D := D) (ci := 0) (v := .int (st_i S_10 (3 * 0 + 2))) (C := RX0) (T := TX0) (N := 5) hx hb hts ni_X4_drop_X0 hown hK hP 0 (rw_Book (by decide : 0 < 13)) rfl 2 (by decide) (hts _ nf_X4_drop_f88) (fun _ h9 => h9) rfl dX4_drop_32 ?_
    obtain ⟨rfl, rfl⟩ := ob_w h
    exact km_iret C hP hD hS dX4_drop_35
  · have h := ob_t c_4 h
    refine lv_iconst (v := -1) hx hb dX4_drop_13 (by decide) ?_
    obtain ⟨rfl, rfl⟩ := ob_w h
    exact km_iret C hP hD hS dX4_drop_14
def fX4_shift (x1 : Int32) (x2 : Int32) (S : RSt) : Option (Int32 × RSt) := (ob_2 (fX0_hasHome 0 x1 S) fun r_2 S_3 => (if r_2 = 0 then (some ((-1 : Int32), S_3)) else (if x2 < (-999 : Int32) then (some ((-1 : Int32), S_3)) else (if (999 : Int32) < x2 then (some ((-1 : Int32), S_3)) else (ob_2 (fX0_canMove 0 x1 x2 S_3) fun r_9 S_10 => (if r_9 = 0 then (some ((-1 : Int32), S_10)) else (ob_1 (fX4_beginAct S_10) fun S_15 => (ob_2 (fX0_moveLevels 0 x1 x2 S_15) fun r_17 S_18 => (some (r_17, S_18))))))))))
abbrev rmX4_shift : Room := { frames := 4, cells := 0, slots := 0, locals := 122 }
theorem nf_X4_shift_f19 : Cond.fieldLink RX4 19 "RepeatIndex" "book" "LRepeatIndex$Book;" ∈ wsX4_shift := by decide +kernel
theorem ni_X4_shift_X4 : ∀ w ∈ u_ws RX4 TX4 7, w ∈ wsX4_shift := by decide +kernel
set_option maxHeartbeats 4000000 in
set_option maxRecDepth 100000 in
theorem kX4_shift {l : Launch} {D : va_G} {cy : Nat → ClassId} {ad : Nat → Nat} {E : ke_T} (hEE : km_E E) {x1 : Int32} {x2 : Int32} {S : RSt} {r : Int32} {S' : RSt} (h : fX4_shift x1 x2 S = some (r, S')) : km_i l D (rw_t cy) (rw_w cy ad) E yX4_shift wsX4_shift rmX4_shift [.ref (ad 17), .int x1, .int x2] S r S' := by
  refine km_i_in (cc := cX4_shift) (nL := 3) hEE (by decide) rfl (Nat.le_of_ble_eq_true rfl) ?_
  intro p e s m below meth c A H ls C hP hD hS hl
  have C : km_C p s m _ meth c cX4_shift 3 RX4 wsX4_shift (some .int) D (rw_t cy) E A := C
  obtain ⟨⟨hx, hb, hml, hown, hts⟩, hr, hlk, hK, hA, hE, hEE⟩ := id C
  have hl : lv_has ls 3 [(0, .ref (ad 17)), (1, .int x1), (2, .int x2)] := hl
  unfold fX4_shift at h
  refine lv_aload_n hx hb dX4_shift_0 rfl (lv_at hl 0 rfl) ?_
  refine va_get (D := D) (ci := 4) (v := .ref (ad 0)) (C := RX4) (T := TX4) (N := 7) hx hb hts ni_X4_shift_X4 hown hK hP 17 rw_Main rfl 1 (by decide) (hts _ nf_X4_shift_f19) (fun _ h9 => h9) rfl dX4_shift_1 ?_
  refine lv_iload_n hx hb dX4_shift_4 rfl (lv_at hl 1 rfl) ?_
  obtain ⟨r_2, S_3, hc_1, h⟩ := ob_2s h
  refine km_cVz (As := [.int x1]) (rest := []) C (kX0_hasHome hEE (by decide : 0 < 13) hc_1) (cwV 1 hts gX4_shift_X0_hasHome rfl rfl rfl (by decide +kernel) ⟨(Nat.le_of_ble_eq_true rfl), (Nat.le_of_ble_eq_true rfl)⟩) (rw_Book (by decide : 0 < 13)) rfl rfl rfl hP hD hS hl.1 rfl (Nat.le_of_ble_eq_true rfl) dX4_shift_5 (fun H locs hP hD hS hz_4 => ?_)
  refine lv_if_eq (tgt := 37) hx hb dX4_shift_8 (by decide) (fun c_5 => ?_) (fun c_5 => ?_)
  · have h := ob_t c_5 h
    refine lv_iconst (v := -1) hx hb dX4_shift_37 (by decide) ?_
    obtain ⟨rfl, rfl⟩ := ob_w h
    exact km_iret C hP hD hS dX4_shift_38
  · have h := ob_f c_5 h
    refine lv_iload_n hx hb dX4_shift_11 rfl (lv_at hl 2 rfl) ?_
    refine lv_sipush (v := -999) hx hb dX4_shift_12 (by decide) ?_
    refine lv_icmp_lt (tgt := 37) hx hb dX4_shift_15 (by decide) (fun c_6 => ?_) (fun c_6 => ?_)
    · have h := ob_t c_6 h
      refine lv_iconst (v := -1) hx hb dX4_shift_37 (by decide) ?_
      obtain ⟨rfl, rfl⟩ := ob_w h
      exact km_iret C hP hD hS dX4_shift_38
    · have h := ob_f c_6 h
      refine lv_iload_n hx hb dX4_shift_18 rfl (lv_at hl 2 rfl) ?_
      refine lv_sipush (v := 999) hx hb dX4_shift_19 (by decide) ?_
      refine lv_icmp_gt (tgt := 37) hx hb dX4_shift_22 (by decide) (fun c_7 => ?_) (fun c_7 => ?_)
      · have h := ob_t c_7 h
        refine lv_iconst (v := -1) hx hb dX4_shift_37 (by decide) ?_
        obtain ⟨rfl, rfl⟩ := ob_w h
        exact km_iret C hP hD hS dX4_shift_38
      · have h := ob_f c_7 h
        refine lv_aload_n hx hb dX4_shift_25 rfl (lv_at hl 0 rfl) ?_
        refine va_get (D := D) (ci := 4) (v := .ref (ad 0)) (C := RX4) (T := TX4) (N := 7) hx hb hts ni_X4_shift_X4 hown hK hP 17 rw_Main rfl 1 (by decide) (hts _ nf_X4_shift_f19) (fun _ h9 => h9) rfl dX4_shift_26 ?_
        refine lv_iload_n hx hb dX4_shift_29 rfl (lv_at hl 1 rfl) ?_
        refine lv_iload_n hx hb dX4_shift_30 rfl (lv_at hl 2 rfl) ?_
        obtain ⟨r_9, S_10, hc_8, h⟩ := ob_2s h
        refine km_cVz (As := [.int x1, .int x2]) (rest := []) C (kX0_canMove hEE (by decide : 0 < 13) hc_8) (cwV 2 hts gX4_shift_X0_canMove rfl rfl rfl (by decide +kernel) ⟨(Nat.le_of_ble_eq_true rfl), (Nat.le_of_ble_eq_true rfl)⟩) (rw_Book (by decide : 0 < 13)) rfl rfl rfl hP hD hS hl.1 rfl (Nat.le_of_ble_eq_true rfl) dX4_shift_31 (fun H locs hP hD hS hz_11 => ?_)
        refine lv_if_ne (tgt := 39) hx hb dX4_shift_34 (by decide) (fun c_12 => ?_) (fun c_12 => ?_)
        · have h := ob_f c_12 h
          refine lv_aload_n hx hb dX4_shift_39 rfl (lv_at hl 0 rfl) ?_
          obtain ⟨S_15, hc_13, h⟩ := ob_1s h
          refine km_cVv (As := []) (rest := []) C (kX4_beginAct hEE hc_13) (cwV 0 hts gX4_shift_X4_beginAct rfl rfl rfl (by decide +kernel) ⟨(Nat.le_of_ble_eq_true rfl), (Nat.le_of_ble_eq_true rfl)⟩) rw_Main rfl rfl rfl hP hD hS hl.1 rfl (Nat.le_of_ble_eq_true rfl) dX4_shift_40 (fun H locs hP hD hS => ?_)
          refine lv_aload_n hx hb dX4_shift_43 rfl (lv_at hl 0 rfl) ?_
          refine va_get (D := D) (ci := 4) (v := .ref (ad 0)) (C := RX4) (T := TX4) (N := 7) hx hb hts ni_X4_shift_X4 hown hK hP 17 rw_Main rfl 1 (by decide) (hts _ nf_X4_shift_f19) (fun _ h9 => h9) rfl dX4_shift_44 ?_
          refine lv_iload_n hx hb dX4_shift_47 rfl (lv_at hl 1 rfl) ?_
          refine lv_iload_n hx hb dX4_shift_48 rfl (lv_at hl 2 rfl) ?_
          obtain ⟨r_17, S_18, hc_16, h⟩ := ob_2s h
          refine km_cVi (As := [.int x1, .int x2]) (rest := []) C (kX0_moveLevels hEE (by decide : 0 < 13) hc_16) (cwV 2 hts gX4_shift_X0_moveLevels rfl rfl rfl (by decide +kernel) ⟨(Nat.le_of_ble_eq_true rfl), (Nat.le_of_ble_eq_true rfl)⟩) (rw_Book (by decide : 0 < 13)) rfl rfl rfl hP hD hS hl.1 rfl (Nat.le_of_ble_eq_true rfl) dX4_shift_49 (fun H locs hP hD hS => ?_)
          obtain ⟨rfl, rfl⟩ := ob_w h
          exact km_iret C hP hD hS dX4_shift_52
        · have h := ob_t c_12 h
          refine lv_iconst (v := -1) hx hb dX4_shift_37 (by decide) ?_
          obtain ⟨rfl, rfl⟩ := ob_w h
          exact km_iret C hP hD hS dX4_shift_38
def fX4_weigh (x1 : Int32) (x2 : Int32) (S : RSt) : Option (Int32 × RSt) := (ob_2 (fX0_hasGap 0 x1 S) fun r_2 S_3 => (if r_2 = 0 then (some ((-1 : Int32), S_3)) else (if x2 < 0 then (some ((-1 : Int32), S_3)) else (if x2 ≤ (3 : Int32) then (ob_1 (fX4_beginAct S_3) fun S_10 => (ob_in x1 8 (ob_in x1 8 (some (st_a S_10 (2 * 0) x1.toNatClampNeg, (st_sa S_10 (2 * 0) x1.toNatClampNeg x2)))))) else (some ((-1 : Int32), S_3))))))
abbrev rmX4_weigh : Room := { frames := 4, cells := 0, slots := 0, locals := 122 }
theorem nf_X4_weigh_f19 : Cond.fieldLink RX4 19 "RepeatIndex" "book" "LRepeatIndex$Book;" ∈ wsX4_weigh := by decide +kernel
theorem ni_X4_weigh_X4 : ∀ w ∈ u_ws RX4 TX4 7, w ∈ wsX4_weigh := by decide +kernel
theorem nf_X4_weigh_f200 : Cond.fieldLink RX4 200 "RepeatIndex$Book" "weights" "[I" ∈ wsX4_weigh := by decide +kernel
theorem ni_X4_weigh_X0 : ∀ w ∈ u_ws RX0 TX0 5, w ∈ wsX4_weigh := by decide +kernel
set_option maxHeartbeats 4000000 in
set_option maxRecDepth 100000 in
theorem kX4_weigh {l : Launch} {D : va_G} {cy : Nat → ClassId} {ad : Nat → Nat} {E : ke_T} (hEE : km_E E) {x1 : Int32} {x2 : Int32} {S : RSt} {r : Int32} {S' : RSt} (h : fX4_weigh x1 x2 S = some (r, S')) : km_i l D (rw_t cy) (rw_w cy ad) E yX4_weigh wsX4_weigh rmX4_weigh [.ref (ad 17), .int x1, .int x2] S r S' := by
  refine km_i_in (cc := cX4_weigh) (nL := 4) hEE (by decide) rfl (Nat.le_of_ble_eq_true rfl) ?_
  intro p e s m below meth c A H ls C hP hD hS hl
  have C : km_C p s m _ meth c cX4_weigh 4 RX4 wsX4_weigh (some .int) D (rw_t cy) E A := C
  obtain ⟨⟨hx, hb, hml, hown, hts⟩, hr, hlk, hK, hA, hE, hEE⟩ := id C
  have hl : lv_has ls 4 [(0, .ref (ad 17)), (1, .int x1), (2, .int x2)] := hl
  unfold fX4_weigh at h
  refine lv_aload_n hx hb dX4_weigh_0 rfl (lv_at hl 0 rfl) ?_
  refine va_get (D := D) (ci := 4) (v := .ref (ad 0)) (C := RX4) (T := TX4) (N := 7) hx hb hts ni_X4_weigh_X4 hown hK hP 17 rw_Main rfl 1 (by decide) (hts _ nf_X4_weigh_f19) (fun _ h9 => h9) rfl dX4_weigh_1 ?_
  refine lv_iload_n hx hb dX4_weigh_4 rfl (lv_at hl 1 rfl) ?_
  obtain ⟨r_2, S_3, hc_1, h⟩ := ob_2s h
  refine km_cVz (As := [.int x1]) (rest := []) C (kX0_hasGap hEE (by decide : 0 < 13) hc_1) (cwV 1 hts gX4_weigh_X0_hasGap rfl rfl rfl (by decide +kernel) ⟨(Nat.le_of_ble_eq_true rfl), (Nat.le_of_ble_eq_true rfl)⟩) (rw_Book (by decide : 0 < 13)) rfl rfl rfl hP hD hS hl.1 rfl (Nat.le_of_ble_eq_true rfl) dX4_weigh_5 (fun H locs hP hD hS hz_4 => ?_)
  refine lv_if_eq (tgt := 20) hx hb dX4_weigh_8 (by decide) (fun c_5 => ?_) (fun c_5 => ?_)
  · have h := ob_t c_5 h
    refine lv_iconst (v := -1) hx hb dX4_weigh_20 (by decide) ?_
    obtain ⟨rfl, rfl⟩ := ob_w h
    exact km_iret C hP hD hS dX4_weigh_21
  · have h := ob_f c_5 h
    refine lv_iload_n hx hb dX4_weigh_11 rfl (lv_at hl 2 rfl) ?_
    refine lv_if_lt (tgt := 20) hx hb dX4_weigh_12 (by decide) (fun c_6 => ?_) (fun c_6 => ?_)
    · have h := ob_t c_6 h
      refine lv_iconst (v := -1) hx hb dX4_weigh_20 (by decide) ?_
      obtain ⟨rfl, rfl⟩ := ob_w h
      exact km_iret C hP hD hS dX4_weigh_21
    · have h := ob_f c_6 h
      refine lv_iload_n hx hb dX4_weigh_15 rfl (lv_at hl 2 rfl) ?_
      refine lv_iconst (v := 3) hx hb dX4_weigh_16 (by decide) ?_
      refine lv_icmp_le (tgt := 22) hx hb dX4_weigh_17 (by decide) (fun c_7 => ?_) (fun c_7 => ?_)
      · have h := ob_t c_7 h
        refine lv_aload_n hx hb dX4_weigh_22 rfl (lv_at hl 0 rfl) ?_
        obtain ⟨S_10, hc_8, h⟩ := ob_1s h
        refine km_cVv (As := []) (rest := []) C (kX4_beginAct hEE hc_8) (cwV 0 hts gX4_weigh_X4_beginAct rfl rfl rfl (by decide +kernel) ⟨(Nat.le_of_ble_eq_true rfl), (Nat.le_of_ble_eq_true rfl)⟩) rw_Main rfl rfl rfl hP hD hS hl.1 rfl (Nat.le_of_ble_eq_true rfl) dX4_weigh_23 (fun H locs hP hD hS => ?_)
        refine lv_aload_n hx hb dX4_weigh_26 rfl (lv_at hl 0 rfl) ?_
        refine va_get (D := D) (ci := 4) (v := .ref (ad 0)) (C := RX4) (T := TX4) (N := 7) hx hb hts ni_X4_weigh_X4 hown hK hP 17 rw_Main rfl 1 (by decide) (hts _ nf_X4_weigh_f19) (fun _ h9 => h9) rfl dX4_weigh_27 ?_
        refine va_get (D := D) (ci := 0) (v := .ref (ad (23 + 2 * 0))) (C := RX0) (T := TX0) (N := 5) hx hb hts ni_X4_weigh_X0 hown hK hP 0 (rw_Book (by decide : 0 < 13)) rfl 3 (by decide) (hts _ nf_X4_weigh_f200) (fun _ h9 => h9) rfl dX4_weigh_30 ?_
        refine lv_iload_n hx hb dX4_weigh_33 rfl (lv_at hl 1 rfl) ?_
        obtain ⟨hv_11, h⟩ := ob_in_s h
        refine va_iald hx hb hK hP (23 + 2 * 0) 0 (rw_weights (by decide : 0 < 13)) rfl hv_11 dX4_weigh_34 ?_
        refine lv_istore_n (lv' := [(3, .int (st_a S_10 (2 * 0) x1.toNatClampNeg)), (0, .ref (ad 17)), (1, .int x1), (2, .int x2)]) hx hb dX4_weigh_35 rfl hl (by decide) rfl (fun ls hl => ?_)
        refine lv_aload_n hx hb dX4_weigh_36 rfl (lv_at hl 1 rfl) ?_
        refine va_get (D := D) (ci := 4) (v := .ref (ad 0)) (C := RX4) (T := TX4) (N := 7) hx hb hts ni_X4_weigh_X4 hown hK hP 17 rw_Main rfl 1 (by decide) (hts _ nf_X4_weigh_f19) (fun _ h9 => h9) rfl dX4_weigh_37 ?_
        refine va_get (D := D) (ci := 0) (v := .ref (ad (23 + 2 * 0))) (C := RX0) (T := TX0) (N := 5) hx hb hts ni_X4_weigh_X0 hown hK hP 0 (rw_Book (by decide : 0 < 13)) rfl 3 (by decide) (hts _ nf_X4_weigh_f200) (fun _ h9 => h9) rfl dX4_weigh_40 ?_
        refine lv_iload_n hx hb dX4_weigh_43 rfl (lv_at hl 2 rfl) ?_
        refine lv_iload_n hx hb dX4_weigh_44 rfl (lv_at hl 3 rfl) ?_
        obtain ⟨hv_12, h⟩ := ob_in_s h
        refine va_iast hx hb hK hP hD hS (23 + 2 * 0) 0 (rw_weights (by decide : 0 < 13)) rfl hv_12 dX4_weigh_45 (fun H locs hP hD hS => ?_)
        have hP := st_ps (rw_s_weights (by decide : 0 < 13)) hP
        have hD := st_ds (rw_s_weights (by decide : 0 < 13)) hD
        refine lv_iload_n hx hb dX4_weigh_46 rfl (lv_at hl 0 rfl) ?_
        obtain ⟨rfl, rfl⟩ := ob_w h
        exact km_iret C hP hD hS dX4_weigh_47
      · have h := ob_f c_7 h
        refine lv_iconst (v := -1) hx hb dX4_weigh_20 (by decide) ?_
        obtain ⟨rfl, rfl⟩ := ob_w h
        exact km_iret C hP hD hS dX4_weigh_21
def fX4_undo (S : RSt) : Option (Int32 × RSt) := (ob_2 (fX2_giveBack 0 S) fun r_2 S_3 => (if r_2 = 0 then (some ((-1 : Int32), S_3)) else (some (st_i (st_si S_3 54 (0 : Int32)) 43, (st_si S_3 54 (0 : Int32))))))
abbrev rmX4_undo : Room := { frames := 3, cells := 0, slots := 0, locals := 102 }
theorem nf_X4_undo_f43 : Cond.fieldLink RX4 43 "RepeatIndex" "history" "LRepeatIndex$History;" ∈ wsX4_undo := by decide +kernel
theorem ni_X4_undo_X4 : ∀ w ∈ u_ws RX4 TX4 7, w ∈ wsX4_undo := by decide +kernel
theorem nf_X4_undo_f19 : Cond.fieldLink RX4 19 "RepeatIndex" "book" "LRepeatIndex$Book;" ∈ wsX4_undo := by decide +kernel
theorem nf_X4_undo_f36 : Cond.fieldLink RX4 36 "RepeatIndex" "fitStands" "Z" ∈ wsX4_undo := by decide +kernel
theorem nf_X4_undo_f102 : Cond.fieldLink RX4 102 "RepeatIndex$History" "count" "I" ∈ wsX4_undo := by decide +kernel
theorem ni_X4_undo_X2 : ∀ w ∈ u_ws RX2 TX2 3, w ∈ wsX4_undo := by decide +kernel
set_option maxHeartbeats 4000000 in
set_option maxRecDepth 100000 in
theorem kX4_undo {l : Launch} {D : va_G} {cy : Nat → ClassId} {ad : Nat → Nat} {E : ke_T} (hEE : km_E E) {S : RSt} {r : Int32} {S' : RSt} (h : fX4_undo S = some (r, S')) : km_i l D (rw_t cy) (rw_w cy ad) E yX4_undo wsX4_undo rmX4_undo [.ref (ad 17)] S r S' := by
  refine km_i_in (cc := cX4_undo) (nL := 1) hEE (by decide) rfl (Nat.le_of_ble_eq_true rfl) ?_
  intro p e s m below meth c A H ls C hP hD hS hl
  have C : km_C p s m _ meth c cX4_undo 1 RX4 wsX4_undo (some .int) D (rw_t cy) E A := C
  obtain ⟨⟨hx, hb, hml, hown, hts⟩, hr, hlk, hK, hA, hE, hEE⟩ := id C
  have hl : lv_has ls 1 [(0, .ref (ad 17))] := hl
  unfold fX4_undo at h
  refine lv_aload_n hx hb dX4_undo_0 rfl (lv_at hl 0 rfl) ?_
  refine va_get (D := D) (ci := 4) (v := .ref (ad 15)) (C := RX4) (T := TX4) (N := 7) hx hb hts ni_X4_undo_X4 hown hK hP 17 rw_Main rfl 6 (by decide) (hts _ nf_X4_undo_f43) (fun _ h9 => h9) rfl dX4_undo_1 ?_
  refine lv_aload_n hx hb dX4_undo_4 rfl (lv_at hl 0 rfl) ?_
  refine va_get (D := D) (ci := 4) (v := .ref (ad 0)) (C := RX4) (T := TX4) (N := 7) hx hb hts ni_X4_undo_X4 hown hK hP 17 rw_Main rfl 1 (by decide) (hts _ nf_X4_undo_f19) (fun _ h9 => h9) rfl dX4_undo_5 ?_
  obtain ⟨r_2, S_3, hc_1, h⟩ := ob_2s h
  refine km_cVz (As := [.ref (ad 0)]) (rest := []) C (kX2_giveBack hEE (by decide : 0 < 13) hc_1) (cwV 1 hts gX4_undo_X2_giveBack rfl rfl rfl (by decide +kernel) ⟨(Nat.le_of_ble_eq_true rfl), (Nat.le_of_ble_eq_true rfl)⟩) rw_Hist rfl rfl rfl hP hD hS hl.1 rfl (Nat.le_of_ble_eq_true rfl) dX4_undo_8 (fun H locs hP hD hS hz_4 => ?_)
  refine lv_if_ne (tgt := 16) hx hb dX4_undo_11 (by decide) (fun c_5 => ?_) (fun c_5 => ?_)
  · have h := ob_f c_5 h
    refine lv_aload_n hx hb dX4_undo_16 rfl (lv_at hl 0 rfl) ?_
    refine lv_iconst (v := 0) hx hb dX4_undo_17 (by decide) ?_
    refine va_put (D := D) (ci := 4) (v := .int (0 : Int32)) (ty := .boolean) (C := RX4) (T := TX4) (N := 7) hx hb hts ni_X4_undo_X4 tyX4 tyX4_ok nmX4 hown hK hP hD hS 17 rw_Main rfl 5 (by decide) (hts _ nf_X4_undo_f36) (fun _ h9 => h9) rfl (by decide +kernel) rfl rfl (Nat.le_of_ble_eq_true rfl) dX4_undo_18 (fun H locs hP hD hS => ?_)
    have hP := st_ps rw_s_Main_fitStands hP
    have hD := st_ds rw_s_Main_fitStands hD
    refine lv_aload_n hx hb dX4_undo_21 rfl (lv_at hl 0 rfl) ?_
    refine va_get (D := D) (ci := 4) (v := .ref (ad 15)) (C := RX4) (T := TX4) (N := 7) hx hb hts ni_X4_undo_X4 hown hK hP 17 rw_Main rfl 6 (by decide) (hts _ nf_X4_undo_f43) (fun _ h9 => h9) rfl dX4_undo_22 ?_
    refine va_get (D := D) (ci := 2) (v := .int (st_i (st_si S_3 54 (0 : Int32)) 43)) (C := RX2) (T := TX2) (N := 3) hx hb hts ni_X4_undo_X2 hown hK hP 15 rw_Hist rfl 0 (by decide) (hts _ nf_X4_undo_f102) (fun _ h9 => h9) rfl dX4_undo_25 ?_
    obtain ⟨rfl, rfl⟩ := ob_w h
    exact km_iret C hP hD hS dX4_undo_28
  · have h := ob_t c_5 h
    refine lv_iconst (v := -1) hx hb dX4_undo_14 (by decide) ?_
    obtain ⟨rfl, rfl⟩ := ob_w h
    exact km_iret C hP hD hS dX4_undo_15
