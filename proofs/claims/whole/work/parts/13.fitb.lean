def fX1_addPull (j : Nat) (x1 : Int32) (x2 : Int32) (S : RSt) : Option (RSt) := (ob_2 (fX1_isFirst j x1 S) fun r_2 S_3 => (if r_2 = 0 then (ob_in x1 8 (ob_in x1 8 (some (st_sg S_3 (2 + j) x1.toNatClampNeg ((st_g S_3 (2 + j) x1.toNatClampNeg) + x2.toInt64))))) else (some S_3)))
abbrev rmX1_addPull : Room := { frames := 1, cells := 0, slots := 0, locals := 21 }
theorem nf_X1_addPull_f28 : Cond.fieldLink RX1 28 "RepeatIndex$Fit" "pulls" "[J" ∈ wsX1_addPull := by decide +kernel
theorem ni_X1_addPull_X1 : ∀ w ∈ u_ws RX1 TX1 8, w ∈ wsX1_addPull := by decide +kernel
set_option maxHeartbeats 4000000 in
set_option maxRecDepth 100000 in
theorem kX1_addPull {l : Launch} {D : va_G} {cy : Nat → ClassId} {ad : Nat → Nat} {E : ke_T} (hEE : km_E E) {j : Nat} (hj : j < 2) {x1 : Int32} {x2 : Int32} {S : RSt} {S' : RSt} (h : fX1_addPull j x1 x2 S = some S') : km_v l D (rw_t cy) (rw_w cy ad) E yX1_addPull wsX1_addPull rmX1_addPull [.ref (ad (13 + j)), .int x1, .int x2] S S' := by
  refine km_v_in (cc := cX1_addPull) (nL := 3) hEE (by decide) rfl (Nat.le_of_ble_eq_true rfl) ?_
  intro p e s m below meth c A H ls C hP hD hS hl
  have C : km_C p s m _ meth c cX1_addPull 3 RX1 wsX1_addPull none D (rw_t cy) E A := C
  obtain ⟨⟨hx, hb, hml, hown, hts⟩, hr, hlk, hK, hA, hE, hEE⟩ := id C
  have hl : lv_has ls 3 [(0, .ref (ad (13 + j))), (1, .int x1), (2, .int x2)] := hl
  unfold fX1_addPull at h
  refine lv_aload_n hx hb dX1_addPull_0 rfl (lv_at hl 0 rfl) ?_
  refine lv_iload_n hx hb dX1_addPull_1 rfl (lv_at hl 1 rfl) ?_
  obtain ⟨r_2, S_3, hc_1, h⟩ := ob_2s h
  refine km_cVz (As := [.int x1]) (rest := []) C (kX1_isFirst hEE hj hc_1) (cwV 1 hts gX1_addPull_X1_isFirst rfl rfl rfl (by decide +kernel) ⟨(Nat.le_of_ble_eq_true rfl), (Nat.le_of_ble_eq_true rfl)⟩) (rw_Fit hj) rfl rfl rfl hP hD hS hl.1 rfl (Nat.le_of_ble_eq_true rfl) dX1_addPull_2 (fun H locs hP hD hS hz_4 => ?_)
  refine lv_if_ne (tgt := 19) hx hb dX1_addPull_5 (by decide) (fun c_5 => ?_) (fun c_5 => ?_)
  · have h := ob_f c_5 h
    obtain rfl := ob_v h
    exact km_vret C hP hD hS dX1_addPull_19
  · have h := ob_t c_5 h
    refine lv_aload_n hx hb dX1_addPull_8 rfl (lv_at hl 0 rfl) ?_
    refine va_get (D := D) (ci := 1) (v := .ref (ad (137 + j))) (C := RX1) (T := TX1) (N := 8) hx hb hts ni_X1_addPull_X1 hown hK hP (13 + j) (rw_Fit hj) rfl 6 (by decide) (hts _ nf_X1_addPull_f28) (fun _ h9 => h9) rfl dX1_addPull_9 ?_
    refine lv_iload_n hx hb dX1_addPull_12 rfl (lv_at hl 1 rfl) ?_
    refine lv_dup2_11 hx hb dX1_addPull_13 rfl rfl ?_
    obtain ⟨hv_6, h⟩ := ob_in_s h
    refine va_lald hx hb hK hP (137 + j) 1 (rw_pulls hj) rfl hv_6 dX1_addPull_14 ?_
    refine lv_iload_n hx hb dX1_addPull_15 rfl (lv_at hl 2 rfl) ?_
    refine lv_i2l hx hb dX1_addPull_16 rfl ?_
    refine lv_ladd hx hb dX1_addPull_17 ?_
    obtain ⟨hv_7, h⟩ := ob_in_s h
    refine va_last hx hb hK hP hD hS (137 + j) 1 (rw_pulls hj) rfl hv_7 dX1_addPull_18 (fun H locs hP hD hS => ?_)
    have hP := st_ps (rw_s_pulls hj) hP
    have hD := st_ds (rw_s_pulls hj) hD
    obtain rfl := ob_v h
    exact km_vret C hP hD hS dX1_addPull_19
def fX1_addCell (j : Nat) (x1 : Int32) (x2 : Int32) (x3 : Int32) (S : RSt) : Option (RSt) := (ob_2 (fX1_isFirst j x1 S) fun r_2 S_3 => (if r_2 = 0 then (ob_2 (fX1_isFirst j x2 S_3) fun r_7 S_8 => (if r_7 = 0 then (ob_in x1 8 (ob_in x2 16 (ob_in x2 16 (some (st_sg S_8 (4 + 8 * j + x1.toNatClampNeg) x2.toNatClampNeg ((st_g S_8 (4 + 8 * j + x1.toNatClampNeg) x2.toNatClampNeg) + x3.toInt64)))))) else (some S_8))) else (some S_3)))
abbrev rmX1_addCell : Room := { frames := 1, cells := 0, slots := 0, locals := 21 }
theorem nf_X1_addCell_f33 : Cond.fieldLink RX1 33 "RepeatIndex$Fit" "rows" "[[J" ∈ wsX1_addCell := by decide +kernel
theorem ni_X1_addCell_X1 : ∀ w ∈ u_ws RX1 TX1 8, w ∈ wsX1_addCell := by decide +kernel
set_option maxHeartbeats 4000000 in
set_option maxRecDepth 100000 in
theorem kX1_addCell {l : Launch} {D : va_G} {cy : Nat → ClassId} {ad : Nat → Nat} {E : ke_T} (hEE : km_E E) {j : Nat} (hj : j < 2) {x1 : Int32} {x2 : Int32} {x3 : Int32} {S : RSt} {S' : RSt} (h : fX1_addCell j x1 x2 x3 S = some S') : km_v l D (rw_t cy) (rw_w cy ad) E yX1_addCell wsX1_addCell rmX1_addCell [.ref (ad (13 + j)), .int x1, .int x2, .int x3] S S' := by
  refine km_v_in (cc := cX1_addCell) (nL := 4) hEE (by decide) rfl (Nat.le_of_ble_eq_true rfl) ?_
  intro p e s m below meth c A H ls C hP hD hS hl
  have C : km_C p s m _ meth c cX1_addCell 4 RX1 wsX1_addCell none D (rw_t cy) E A := C
  obtain ⟨⟨hx, hb, hml, hown, hts⟩, hr, hlk, hK, hA, hE, hEE⟩ := id C
  have hl : lv_has ls 4 [(0, .ref (ad (13 + j))), (1, .int x1), (2, .int x2), (3, .int x3)] := hl
  unfold fX1_addCell at h
  refine lv_aload_n hx hb dX1_addCell_0 rfl (lv_at hl 0 rfl) ?_
  refine lv_iload_n hx hb dX1_addCell_1 rfl (lv_at hl 1 rfl) ?_
  obtain ⟨r_2, S_3, hc_1, h⟩ := ob_2s h
  refine km_cVz (As := [.int x1]) (rest := []) C (kX1_isFirst hEE hj hc_1) (cwV 1 hts gX1_addCell_X1_isFirst rfl rfl rfl (by decide +kernel) ⟨(Nat.le_of_ble_eq_true rfl), (Nat.le_of_ble_eq_true rfl)⟩) (rw_Fit hj) rfl rfl rfl hP hD hS hl.1 rfl (Nat.le_of_ble_eq_true rfl) dX1_addCell_2 (fun H locs hP hD hS hz_4 => ?_)
  refine lv_if_ne (tgt := 29) hx hb dX1_addCell_5 (by decide) (fun c_5 => ?_) (fun c_5 => ?_)
  · have h := ob_f c_5 h
    obtain rfl := ob_v h
    exact km_vret C hP hD hS dX1_addCell_29
  · have h := ob_t c_5 h
    refine lv_aload_n hx hb dX1_addCell_8 rfl (lv_at hl 0 rfl) ?_
    refine lv_iload_n hx hb dX1_addCell_9 rfl (lv_at hl 2 rfl) ?_
    obtain ⟨r_7, S_8, hc_6, h⟩ := ob_2s h
    refine km_cVz (As := [.int x2]) (rest := []) C (kX1_isFirst hEE hj hc_6) (cwV 1 hts gX1_addCell_X1_isFirst rfl rfl rfl (by decide +kernel) ⟨(Nat.le_of_ble_eq_true rfl), (Nat.le_of_ble_eq_true rfl)⟩) (rw_Fit hj) rfl rfl rfl hP hD hS hl.1 rfl (Nat.le_of_ble_eq_true rfl) dX1_addCell_10 (fun H locs hP hD hS hz_9 => ?_)
    refine lv_if_ne (tgt := 29) hx hb dX1_addCell_13 (by decide) (fun c_10 => ?_) (fun c_10 => ?_)
    · have h := ob_f c_10 h
      obtain rfl := ob_v h
      exact km_vret C hP hD hS dX1_addCell_29
    · have h := ob_t c_10 h
      refine lv_aload_n hx hb dX1_addCell_16 rfl (lv_at hl 0 rfl) ?_
      refine va_get (D := D) (ci := 1) (v := .ref (ad (21 + j))) (C := RX1) (T := TX1) (N := 8) hx hb hts ni_X1_addCell_X1 hown hK hP (13 + j) (rw_Fit hj) rfl 7 (by decide) (hts _ nf_X1_addCell_f33) (fun _ h9 => h9) rfl dX1_addCell_17 ?_
      refine lv_iload_n hx hb dX1_addCell_20 rfl (lv_at hl 1 rfl) ?_
      obtain ⟨hv_11, h⟩ := ob_in_s h
      refine va_aldA hx hb hK hP (21 + j) 5 (rw_rows hj) rfl hv_11 dX1_addCell_21 ?_
      refine W.eq (g2 := F0 m 22 ls [.ref (ad (139 + 8 * j + x1.toNatClampNeg))]) rfl ?_
      refine lv_iload_n hx hb dX1_addCell_22 rfl (lv_at hl 2 rfl) ?_
      refine lv_dup2_11 hx hb dX1_addCell_23 rfl rfl ?_
      obtain ⟨hv_12, h⟩ := ob_in_s h
      refine va_lald hx hb hK hP (139 + 8 * j + x1.toNatClampNeg) 1 (rw_row hj (vp_lt hv_11)) rfl hv_12 dX1_addCell_24 ?_
      refine lv_iload_n hx hb dX1_addCell_25 rfl (lv_at hl 3 rfl) ?_
      refine lv_i2l hx hb dX1_addCell_26 rfl ?_
      refine lv_ladd hx hb dX1_addCell_27 ?_
      obtain ⟨hv_13, h⟩ := ob_in_s h
      refine va_last hx hb hK hP hD hS (139 + 8 * j + x1.toNatClampNeg) 1 (rw_row hj (vp_lt hv_11)) rfl hv_13 dX1_addCell_28 (fun H locs hP hD hS => ?_)
      have hP := st_ps (rw_s_row hj (vp_lt hv_11)) hP
      have hD := st_ds (rw_s_row hj (vp_lt hv_11)) hD
      obtain rfl := ob_v h
      exact km_vret C hP hD hS dX1_addCell_29
def fX1_writePair (j : Nat) (i : Nat) (S : RSt) : Option (RSt) := (ob_in (1 : Int32) 5 (ob_in (2 : Int32) 5 (ob_in (4 : Int32) 5 (ob_in (3 : Int32) 5 (ob_1 (fX1_addPull j (st_a S (28 + 42 * j + i) (1 : Int32).toNatClampNeg) ((-(st_a S (28 + 42 * j + i) (4 : Int32).toNatClampNeg)) * (st_a S (28 + 42 * j + i) (3 : Int32).toNatClampNeg)) S) fun S_7 => (ob_in (3 : Int32) 5 (ob_1 (fX1_addPull j (st_a S (28 + 42 * j + i) (2 : Int32).toNatClampNeg) ((st_a S (28 + 42 * j + i) (4 : Int32).toNatClampNeg) * (st_a S_7 (28 + 42 * j + i) (3 : Int32).toNatClampNeg)) S_7) fun S_11 => (ob_1 (fX1_addCell j (st_a S (28 + 42 * j + i) (1 : Int32).toNatClampNeg) (st_a S (28 + 42 * j + i) (1 : Int32).toNatClampNeg) (st_a S (28 + 42 * j + i) (4 : Int32).toNatClampNeg) S_11) fun S_14 => (ob_1 (fX1_addCell j (st_a S (28 + 42 * j + i) (2 : Int32).toNatClampNeg) (st_a S (28 + 42 * j + i) (2 : Int32).toNatClampNeg) (st_a S (28 + 42 * j + i) (4 : Int32).toNatClampNeg) S_14) fun S_17 => (ob_1 (fX1_addCell j (st_a S (28 + 42 * j + i) (1 : Int32).toNatClampNeg) (st_a S (28 + 42 * j + i) (2 : Int32).toNatClampNeg) (-(st_a S (28 + 42 * j + i) (4 : Int32).toNatClampNeg)) S_17) fun S_20 => (ob_1 (fX1_addCell j (st_a S (28 + 42 * j + i) (2 : Int32).toNatClampNeg) (st_a S (28 + 42 * j + i) (1 : Int32).toNatClampNeg) (-(st_a S (28 + 42 * j + i) (4 : Int32).toNatClampNeg)) S_20) fun S_23 => (some S_23))))))))))))
abbrev rmX1_writePair : Room := { frames := 2, cells := 0, slots := 0, locals := 44 }
set_option maxHeartbeats 4000000 in
set_option maxRecDepth 100000 in
theorem kX1_writePair {l : Launch} {D : va_G} {cy : Nat → ClassId} {ad : Nat → Nat} {E : ke_T} (hEE : km_E E) {j : Nat} (hj : j < 2) {i : Nat} (hi : i < 42) {S : RSt} {S' : RSt} (h : fX1_writePair j i S = some S') : km_v l D (rw_t cy) (rw_w cy ad) E yX1_writePair wsX1_writePair rmX1_writePair [.ref (ad (13 + j)), .ref (ad (51 + 42 * j + i))] S S' := by
  refine km_v_in (cc := cX1_writePair) (nL := 5) hEE (by decide) rfl (Nat.le_of_ble_eq_true rfl) ?_
  intro p e s m below meth c A H ls C hP hD hS hl
  have C : km_C p s m _ meth c cX1_writePair 5 RX1 wsX1_writePair none D (rw_t cy) E A := C
  obtain ⟨⟨hx, hb, hml, hown, hts⟩, hr, hlk, hK, hA, hE, hEE⟩ := id C
  have hl : lv_has ls 5 [(0, .ref (ad (13 + j))), (1, .ref (ad (51 + 42 * j + i)))] := hl
  unfold fX1_writePair at h
  refine lv_aload_n hx hb dX1_writePair_0 rfl (lv_at hl 1 rfl) ?_
  refine lv_iconst (v := 1) hx hb dX1_writePair_1 (by decide) ?_
  obtain ⟨hv_1, h⟩ := ob_in_s h
  refine va_iald hx hb hK hP (51 + 42 * j + i) 0 (rw_prow hj hi) rfl hv_1 dX1_writePair_2 ?_
  refine lv_istore_n (lv' := [(2, .int (st_a S (28 + 42 * j + i) (1 : Int32).toNatClampNeg)), (0, .ref (ad (13 + j))), (1, .ref (ad (51 + 42 * j + i)))]) hx hb dX1_writePair_3 rfl hl (by decide) rfl (fun ls hl => ?_)
  refine lv_aload_n hx hb dX1_writePair_4 rfl (lv_at hl 2 rfl) ?_
  refine lv_iconst (v := 2) hx hb dX1_writePair_5 (by decide) ?_
  obtain ⟨hv_2, h⟩ := ob_in_s h
  refine va_iald hx hb hK hP (51 + 42 * j + i) 0 (rw_prow hj hi) rfl hv_2 dX1_writePair_6 ?_
  refine lv_istore_n (lv' := [(3, .int (st_a S (28 + 42 * j + i) (2 : Int32).toNatClampNeg)), (2, .int (st_a S (28 + 42 * j + i) (1 : Int32).toNatClampNeg)), (0, .ref (ad (13 + j))), (1, .ref (ad (51 + 42 * j + i)))]) hx hb dX1_writePair_7 rfl hl (by decide) rfl (fun ls hl => ?_)
  refine lv_aload_n hx hb dX1_writePair_8 rfl (lv_at hl 3 rfl) ?_
  refine lv_iconst (v := 4) hx hb dX1_writePair_9 (by decide) ?_
  obtain ⟨hv_3, h⟩ := ob_in_s h
  refine va_iald hx hb hK hP (51 + 42 * j + i) 0 (rw_prow hj hi) rfl hv_3 dX1_writePair_10 ?_
  refine lv_istore (lv' := [(4, .int (st_a S (28 + 42 * j + i) (4 : Int32).toNatClampNeg)), (3, .int (st_a S (28 + 42 * j + i) (2 : Int32).toNatClampNeg)), (2, .int (st_a S (28 + 42 * j + i) (1 : Int32).toNatClampNeg)), (0, .ref (ad (13 + j))), (1, .ref (ad (51 + 42 * j + i)))]) hx hb dX1_writePair_11 hl (by decide) rfl (fun ls hl => ?_)
  refine lv_aload_n hx hb dX1_writePair_13 rfl (lv_at hl 3 rfl) ?_
  refine lv_iload_n hx hb dX1_writePair_14 rfl (lv_at hl 2 rfl) ?_
  refine lv_iload hx hb dX1_writePair_15 (lv_at hl 0 rfl) ?_
  refine lv_ineg hx hb dX1_writePair_17 ?_
  refine lv_aload_n hx hb dX1_writePair_18 rfl (lv_at hl 4 rfl) ?_
  refine lv_iconst (v := 3) hx hb dX1_writePair_19 (by decide) ?_
  obtain ⟨hv_4, h⟩ := ob_in_s h
  refine va_iald hx hb hK hP (51 + 42 * j + i) 0 (rw_prow hj hi) rfl hv_4 dX1_writePair_20 ?_
  refine lv_imul hx hb dX1_writePair_21 ?_
  obtain ⟨S_7, hc_5, h⟩ := ob_1s h
  refine km_cVv (As := [.int (st_a S (28 + 42 * j + i) (1 : Int32).toNatClampNeg), .int ((-(st_a S (28 + 42 * j + i) (4 : Int32).toNatClampNeg)) * (st_a S (28 + 42 * j + i) (3 : Int32).toNatClampNeg))]) (rest := []) C (kX1_addPull hEE hj hc_5) (cwV 2 hts gX1_writePair_X1_addPull rfl rfl rfl (by decide +kernel) ⟨(Nat.le_of_ble_eq_true rfl), (Nat.le_of_ble_eq_true rfl)⟩) (rw_Fit hj) rfl rfl rfl hP hD hS hl.1 rfl (Nat.le_of_ble_eq_true rfl) dX1_writePair_22 (fun H locs hP hD hS => ?_)
  refine lv_aload_n hx hb dX1_writePair_25 rfl (lv_at hl 3 rfl) ?_
  refine lv_iload_n hx hb dX1_writePair_26 rfl (lv_at hl 1 rfl) ?_
  refine lv_iload hx hb dX1_writePair_27 (lv_at hl 0 rfl) ?_
  refine lv_aload_n hx hb dX1_writePair_29 rfl (lv_at hl 4 rfl) ?_
  refine lv_iconst (v := 3) hx hb dX1_writePair_30 (by decide) ?_
  obtain ⟨hv_8, h⟩ := ob_in_s h
  refine va_iald hx hb hK hP (51 + 42 * j + i) 0 (rw_prow hj hi) rfl hv_8 dX1_writePair_31 ?_
  refine lv_imul hx hb dX1_writePair_32 ?_
  obtain ⟨S_11, hc_9, h⟩ := ob_1s h
  refine km_cVv (As := [.int (st_a S (28 + 42 * j + i) (2 : Int32).toNatClampNeg), .int ((st_a S (28 + 42 * j + i) (4 : Int32).toNatClampNeg) * (st_a S_7 (28 + 42 * j + i) (3 : Int32).toNatClampNeg))]) (rest := []) C (kX1_addPull hEE hj hc_9) (cwV 2 hts gX1_writePair_X1_addPull rfl rfl rfl (by decide +kernel) ⟨(Nat.le_of_ble_eq_true rfl), (Nat.le_of_ble_eq_true rfl)⟩) (rw_Fit hj) rfl rfl rfl hP hD hS hl.1 rfl (Nat.le_of_ble_eq_true rfl) dX1_writePair_33 (fun H locs hP hD hS => ?_)
  refine lv_aload_n hx hb dX1_writePair_36 rfl (lv_at hl 3 rfl) ?_
  refine lv_iload_n hx hb dX1_writePair_37 rfl (lv_at hl 2 rfl) ?_
  refine lv_iload_n hx hb dX1_writePair_38 rfl (lv_at hl 2 rfl) ?_
  refine lv_iload hx hb dX1_writePair_39 (lv_at hl 0 rfl) ?_
  obtain ⟨S_14, hc_12, h⟩ := ob_1s h
  refine km_cVv (As := [.int (st_a S (28 + 42 * j + i) (1 : Int32).toNatClampNeg), .int (st_a S (28 + 42 * j + i) (1 : Int32).toNatClampNeg), .int (st_a S (28 + 42 * j + i) (4 : Int32).toNatClampNeg)]) (rest := []) C (kX1_addCell hEE hj hc_12) (cwV 3 hts gX1_writePair_X1_addCell rfl rfl rfl (by decide +kernel) ⟨(Nat.le_of_ble_eq_true rfl), (Nat.le_of_ble_eq_true rfl)⟩) (rw_Fit hj) rfl rfl rfl hP hD hS hl.1 rfl (Nat.le_of_ble_eq_true rfl) dX1_writePair_41 (fun H locs hP hD hS => ?_)
  refine lv_aload_n hx hb dX1_writePair_44 rfl (lv_at hl 3 rfl) ?_
  refine lv_iload_n hx hb dX1_writePair_45 rfl (lv_at hl 1 rfl) ?_
  refine lv_iload_n hx hb dX1_writePair_46 rfl (lv_at hl 1 rfl) ?_
  refine lv_iload hx hb dX1_writePair_47 (lv_at hl 0 rfl) ?_
  obtain ⟨S_17, hc_15, h⟩ := ob_1s h
  refine km_cVv (As := [.int (st_a S (28 + 42 * j + i) (2 : Int32).toNatClampNeg), .int (st_a S (28 + 42 * j + i) (2 : Int32).toNatClampNeg), .int (st_a S (28 + 42 * j + i) (4 : Int32).toNatClampNeg)]) (rest := []) C (kX1_addCell hEE hj hc_15) (cwV 3 hts gX1_writePair_X1_addCell rfl rfl rfl (by decide +kernel) ⟨(Nat.le_of_ble_eq_true rfl), (Nat.le_of_ble_eq_true rfl)⟩) (rw_Fit hj) rfl rfl rfl hP hD hS hl.1 rfl (Nat.le_of_ble_eq_true rfl) dX1_writePair_49 (fun H locs hP hD hS => ?_)
  refine lv_aload_n hx hb dX1_writePair_52 rfl (lv_at hl 3 rfl) ?_
  refine lv_iload_n hx hb dX1_writePair_53 rfl (lv_at hl 2 rfl) ?_
  refine lv_iload_n hx hb dX1_writePair_54 rfl (lv_at hl 1 rfl) ?_
  refine lv_iload hx hb dX1_writePair_55 (lv_at hl 0 rfl) ?_
  refine lv_ineg hx hb dX1_writePair_57 ?_
  obtain ⟨S_20, hc_18, h⟩ := ob_1s h
  refine km_cVv (As := [.int (st_a S (28 + 42 * j + i) (1 : Int32).toNatClampNeg), .int (st_a S (28 + 42 * j + i) (2 : Int32).toNatClampNeg), .int (-(st_a S (28 + 42 * j + i) (4 : Int32).toNatClampNeg))]) (rest := []) C (kX1_addCell hEE hj hc_18) (cwV 3 hts gX1_writePair_X1_addCell rfl rfl rfl (by decide +kernel) ⟨(Nat.le_of_ble_eq_true rfl), (Nat.le_of_ble_eq_true rfl)⟩) (rw_Fit hj) rfl rfl rfl hP hD hS hl.1 rfl (Nat.le_of_ble_eq_true rfl) dX1_writePair_58 (fun H locs hP hD hS => ?_)
  refine lv_aload_n hx hb dX1_writePair_61 rfl (lv_at hl 3 rfl) ?_
  refine lv_iload_n hx hb dX1_writePair_62 rfl (lv_at hl 1 rfl) ?_
  refine lv_iload_n hx hb dX1_writePair_63 rfl (lv_at hl 2 rfl) ?_
  refine lv_iload hx hb dX1_writePair_64 (lv_at hl 0 rfl) ?_
  refine lv_ineg hx hb dX1_writePair_66 ?_
  obtain ⟨S_23, hc_21, h⟩ := ob_1s h
  refine km_cVv (As := [.int (st_a S (28 + 42 * j + i) (2 : Int32).toNatClampNeg), .int (st_a S (28 + 42 * j + i) (1 : Int32).toNatClampNeg), .int (-(st_a S (28 + 42 * j + i) (4 : Int32).toNatClampNeg))]) (rest := []) C (kX1_addCell hEE hj hc_21) (cwV 3 hts gX1_writePair_X1_addCell rfl rfl rfl (by decide +kernel) ⟨(Nat.le_of_ble_eq_true rfl), (Nat.le_of_ble_eq_true rfl)⟩) (rw_Fit hj) rfl rfl rfl hP hD hS hl.1 rfl (Nat.le_of_ble_eq_true rfl) dX1_writePair_67 (fun H locs hP hD hS => ?_)
  obtain rfl := ob_v h
  exact km_vret C hP hD hS dX1_writePair_70
def fX1_writeRows_L12 (j : Nat) : Nat → Int32 → Int32 → RSt → Option (RSt)
  | 0, _, _, _ => none
  | n + 1, x1, x2, S => (if ((2 : Int32) * (st_i S (39 + 2 * j))) ≤ x2 then (some S) else (ob_in x1 8 (ob_in x2 16 (fX1_writeRows_L12 j n x1 (x2 + (1 : Int32)) (st_sg S (4 + 8 * j + x1.toNatClampNeg) x2.toNatClampNeg (0 : Int64))))))
def fX1_writeRows_L2 (j : Nat) : Nat → Int32 → RSt → Option (RSt)
  | 0, _, _ => none
  | n + 1, x1, S => (if (st_i S (39 + 2 * j)) ≤ x1 then (some S) else (ob_1 (fX1_writeRows_L12 j 1000 x1 (0 : Int32) S) fun S_6 => (ob_in x1 8 (ob_in ((st_i S_6 (39 + 2 * j)) + x1) 16 (ob_in x1 8 (ob_2 (fX1_isFirst j x1 (st_sg S_6 (4 + 8 * j + x1.toNatClampNeg) ((st_i S_6 (39 + 2 * j)) + x1).toNatClampNeg (1 : Int64))) fun r_11 S_12 => (ob_j (fun (sJ_14_0 : Int64) (S_15 : RSt) => (ob_in x1 16 (ob_in x1 8 (fX1_writeRows_L2 j n (x1 + (1 : Int32)) (st_sg (st_sg S_15 (4 + 8 * j + x1.toNatClampNeg) x1.toNatClampNeg sJ_14_0) (2 + j) x1.toNatClampNeg (0 : Int64)))))) fun tJ_14 => (if r_11 = 0 then (tJ_14 (0 : Int64) S_12) else (tJ_14 (1 : Int64) S_12)))))))))
def fX1_writeRows_L87 (j : Nat) : Nat → Int32 → RSt → Option (RSt)
  | 0, _, _ => none
  | n + 1, x1, S => (if (st_i S (40 + 2 * j)) ≤ x1 then (some S) else (ob_in x1 42 (ob_1 (fX1_writePair j x1.toNatClampNeg S) fun S_26 => (fX1_writeRows_L87 j n (x1 + (1 : Int32)) S_26))))
def fX1_writeRows (j : Nat) (S : RSt) : Option (RSt) := (ob_1 (fX1_writeRows_L2 j 1000 (0 : Int32) S) fun S_21 => (ob_1 (fX1_writeRows_L87 j 1000 (0 : Int32) S_21) fun S_28 => (some S_28)))
abbrev rmX1_writeRows : Room := { frames := 3, cells := 0, slots := 0, locals := 68 }
theorem nf_X1_writeRows_f42 : Cond.fieldLink RX1 42 "RepeatIndex$Fit" "months" "I" ∈ wsX1_writeRows := by decide +kernel
theorem ni_X1_writeRows_X1 : ∀ w ∈ u_ws RX1 TX1 8, w ∈ wsX1_writeRows := by decide +kernel
theorem nf_X1_writeRows_f33 : Cond.fieldLink RX1 33 "RepeatIndex$Fit" "rows" "[[J" ∈ wsX1_writeRows := by decide +kernel
theorem nf_X1_writeRows_f28 : Cond.fieldLink RX1 28 "RepeatIndex$Fit" "pulls" "[J" ∈ wsX1_writeRows := by decide +kernel
theorem nf_X1_writeRows_f59 : Cond.fieldLink RX1 59 "RepeatIndex$Fit" "pairs" "I" ∈ wsX1_writeRows := by decide +kernel
theorem nf_X1_writeRows_f13 : Cond.fieldLink RX1 13 "RepeatIndex$Fit" "pairRows" "[[I" ∈ wsX1_writeRows := by decide +kernel
set_option maxHeartbeats 4000000 in
set_option maxRecDepth 100000 in
theorem kX1_writeRows_L12 {l : Launch} {D : va_G} {cy : Nat → ClassId} {ad : Nat → Nat} {E : ke_T} {j : Nat} (hj : j < 2) {p : Program} {e : Env} {s : State} {m : MethodId} {args : Array Value} {below : List Frame} {meth : Method} {c : Code} {A : Nat → Prop} {Q : State → Prop} (C : km_C p s m args meth c cX1_writeRows 3 RX1 wsX1_writeRows none D (rw_t cy) E A) : ∀ (n : Nat) (x1 : Int32) (x2 : Int32) (S : RSt) (S' : RSt) (h : fX1_writeRows_L12 j n x1 x2 S = some S') {H : Heap} {locs : List Loc} {ls : Array Slot} (hP : va_P D vwCl ((rw_w cy ad) S) H) (hD : va_D A ((rw_w cy ad) S)) (hS : va_S A s.heap H locs) (hl : lv_has ls 3 [(0, .ref (ad (13 + j))), (1, .int x1), (2, .int x2)]) (kx0 : ∀ (H : Heap) (locs : List Loc) (ls : Array Slot), va_P D vwCl ((rw_w cy ad) S') H → va_D A ((rw_w cy ad) S') → va_S A s.heap H locs → lv_has ls 3 [(0, .ref (ad (13 + j))), (1, .int x1)] → W p l e rmX1_writeRows s m args below meth c H locs 0 0 Q (F0 m 37 ls [])), W p l e rmX1_writeRows s m args below meth c H locs 0 0 Q (F0 m 12 ls []) := by
  obtain ⟨⟨hx, hb, hml, hown, hts⟩, hr, hlk, hK, hA, hE, hEE⟩ := id C
  intro n
  induction n with
  | zero =>
    intro x1 x2 S S' h
    rw [fX1_writeRows_L12] at h
    cases h
  | succ n ih =>
    intro x1 x2 S S' h H locs ls hP hD hS hl kx0
    rw [fX1_writeRows_L12] at h
    refine lv_iload_n hx hb dX1_writeRows_12 rfl (lv_at hl 2 rfl) ?_
    refine lv_iconst (v := 2) hx hb dX1_writeRows_13 (by decide) ?_
    refine lv_aload_n hx hb dX1_writeRows_14 rfl (lv_at hl 0 rfl) ?_
    refine va_get (D := D) (ci := 1) (v := .int (st_i S (39 + 2 * j))) (C := RX1) (T := TX1) (N := 8) hx hb hts ni_X1_writeRows_X1 hown hK hP (13 + j) (rw_Fit hj) rfl 0 (by decide) (hts _ nf_X1_writeRows_f42) (fun _ h9 => h9) rfl dX1_writeRows_15 ?_
    refine lv_imul hx hb dX1_writeRows_18 ?_
    refine lv_icmp_ge (tgt := 37) hx hb dX1_writeRows_19 (by decide) (fun c_2 => ?_) (fun c_2 => ?_)
    · have h := ob_t c_2 h
      cases h
      exact kx0 _ _ _ hP hD hS (lv_sub hl [0, 1] rfl)
    · have h := ob_f c_2 h
      refine lv_aload_n hx hb dX1_writeRows_22 rfl (lv_at hl 0 rfl) ?_
      refine va_get (D := D) (ci := 1) (v := .ref (ad (21 + j))) (C := RX1) (T := TX1) (N := 8) hx hb hts ni_X1_writeRows_X1 hown hK hP (13 + j) (rw_Fit hj) rfl 7 (by decide) (hts _ nf_X1_writeRows_f33) (fun _ h9 => h9) rfl dX1_writeRows_23 ?_
      refine lv_iload_n hx hb dX1_writeRows_26 rfl (lv_at hl 1 rfl) ?_
      obtain ⟨hv_3, h⟩ := ob_in_s h
      refine va_aldA hx hb hK hP (21 + j) 5 (rw_rows hj) rfl hv_3 dX1_writeRows_27 ?_
      refine W.eq (g2 := F0 m 28 ls [.ref (ad (139 + 8 * j + x1.toNatClampNeg))]) rfl ?_
      refine lv_iload_n hx hb dX1_writeRows_28 rfl (lv_at hl 2 rfl) ?_
      refine lv_lconst (v := 0) hx hb dX1_writeRows_29 (by decide) ?_
      obtain ⟨hv_4, h⟩ := ob_in_s h
      refine va_last hx hb hK hP hD hS (139 + 8 * j + x1.toNatClampNeg) 1 (rw_row hj (vp_lt hv_3)) rfl hv_4 dX1_writeRows_30 (fun H locs hP hD hS => ?_)
      have hP := st_ps (rw_s_row hj (vp_lt hv_3)) hP
      have hD := st_ds (rw_s_row hj (vp_lt hv_3)) hD
      refine lv_iinc (v := x2 + (1 : Int32)) (lv' := [(2, .int (x2 + (1 : Int32))), (0, .ref (ad (13 + j))), (1, .int x1)]) hx hb dX1_writeRows_31 hl (k := 2) rfl (congrArg (fun z => x2 + z) (by decide)) (by decide) rfl (fun ls hl => ?_)
      refine lv_goto (tgt := 12) hx hb dX1_writeRows_34 (by decide) ?_
      exact ih _ _ _ _ h hP hD hS (lv_sub hl [1, 2, 0] rfl) kx0
set_option maxHeartbeats 4000000 in
set_option maxRecDepth 100000 in
theorem kX1_writeRows_L2 {l : Launch} {D : va_G} {cy : Nat → ClassId} {ad : Nat → Nat} {E : ke_T} {j : Nat} (hj : j < 2) {p : Program} {e : Env} {s : State} {m : MethodId} {args : Array Value} {below : List Frame} {meth : Method} {c : Code} {A : Nat → Prop} {Q : State → Prop} (C : km_C p s m args meth c cX1_writeRows 3 RX1 wsX1_writeRows none D (rw_t cy) E A) : ∀ (n : Nat) (x1 : Int32) (S : RSt) (S' : RSt) (h : fX1_writeRows_L2 j n x1 S = some S') {H : Heap} {locs : List Loc} {ls : Array Slot} (hP : va_P D vwCl ((rw_w cy ad) S) H) (hD : va_D A ((rw_w cy ad) S)) (hS : va_S A s.heap H locs) (hl : lv_has ls 3 [(0, .ref (ad (13 + j))), (1, .int x1)]) (kx0 : ∀ (H : Heap) (locs : List Loc) (ls : Array Slot), va_P D vwCl ((rw_w cy ad) S') H → va_D A ((rw_w cy ad) S') → va_S A s.heap H locs → lv_has ls 3 [(0, .ref (ad (13 + j)))] → W p l e rmX1_writeRows s m args below meth c H locs 0 0 Q (F0 m 85 ls [])), W p l e rmX1_writeRows s m args below meth c H locs 0 0 Q (F0 m 2 ls []) := by
  obtain ⟨⟨hx, hb, hml, hown, hts⟩, hr, hlk, hK, hA, hE, hEE⟩ := id C
  intro n
  induction n with
  | zero =>
    intro x1 S S' h
    rw [fX1_writeRows_L2] at h
    cases h
  | succ n ih =>
    intro x1 S S' h H locs ls hP hD hS hl kx0
    rw [fX1_writeRows_L2] at h
    refine lv_iload_n hx hb dX1_writeRows_2 rfl (lv_at hl 1 rfl) ?_
    refine lv_aload_n hx hb dX1_writeRows_3 rfl (lv_at hl 0 rfl) ?_
    refine va_get (D := D) (ci := 1) (v := .int (st_i S (39 + 2 * j))) (C := RX1) (T := TX1) (N := 8) hx hb hts ni_X1_writeRows_X1 hown hK hP (13 + j) (rw_Fit hj) rfl 0 (by decide) (hts _ nf_X1_writeRows_f42) (fun _ h9 => h9) rfl dX1_writeRows_4 ?_
    refine lv_icmp_ge (tgt := 85) hx hb dX1_writeRows_7 (by decide) (fun c_1 => ?_) (fun c_1 => ?_)
    · have h := ob_t c_1 h
      cases h
      exact kx0 _ _ _ hP hD hS (lv_sub hl [0] rfl)
    · have h := ob_f c_1 h
      refine lv_iconst (v := 0) hx hb dX1_writeRows_10 (by decide) ?_
      refine lv_istore_n (lv' := [(2, .int (0 : Int32)), (0, .ref (ad (13 + j))), (1, .int x1)]) hx hb dX1_writeRows_11 rfl hl (by decide) rfl (fun ls hl => ?_)
      obtain ⟨S_6, hq_5, h⟩ := ob_1s h
      refine kX1_writeRows_L12 hj C _ _ _ _ _ hq_5 hP hD hS (lv_sub hl [1, 2, 0] rfl) (fun H locs ls hP hD hS hl => ?_)
      refine lv_aload_n hx hb dX1_writeRows_37 rfl (lv_at hl 0 rfl) ?_
      refine va_get (D := D) (ci := 1) (v := .ref (ad (21 + j))) (C := RX1) (T := TX1) (N := 8) hx hb hts ni_X1_writeRows_X1 hown hK hP (13 + j) (rw_Fit hj) rfl 7 (by decide) (hts _ nf_X1_writeRows_f33) (fun _ h9 => h9) rfl dX1_writeRows_38 ?_
      refine lv_iload_n hx hb dX1_writeRows_41 rfl (lv_at hl 1 rfl) ?_
      obtain ⟨hv_7, h⟩ := ob_in_s h
      refine va_aldA hx hb hK hP (21 + j) 5 (rw_rows hj) rfl hv_7 dX1_writeRows_42 ?_
      refine W.eq (g2 := F0 m 43 ls [.ref (ad (139 + 8 * j + x1.toNatClampNeg))]) rfl ?_
      refine lv_aload_n hx hb dX1_writeRows_43 rfl (lv_at hl 0 rfl) ?_
      refine va_get (D := D) (ci := 1) (v := .int (st_i S_6 (39 + 2 * j))) (C := RX1) (T := TX1) (N := 8) hx hb hts ni_X1_writeRows_X1 hown hK hP (13 + j) (rw_Fit hj) rfl 0 (by decide) (hts _ nf_X1_writeRows_f42) (fun _ h9 => h9) rfl dX1_writeRows_44 ?_
      refine lv_iload_n hx hb dX1_writeRows_47 rfl (lv_at hl 1 rfl) ?_
      refine lv_iadd hx hb dX1_writeRows_48 ?_
      refine lv_lconst (v := 1) hx hb dX1_writeRows_49 (by decide) ?_
      obtain ⟨hv_8, h⟩ := ob_in_s h
      refine va_last hx hb hK hP hD hS (139 + 8 * j + x1.toNatClampNeg) 1 (rw_row hj (vp_lt hv_7)) rfl hv_8 dX1_writeRows_50 (fun H locs hP hD hS => ?_)
      have hP := st_ps (rw_s_row hj (vp_lt hv_7)) hP
      have hD := st_ds (rw_s_row hj (vp_lt hv_7)) hD
      refine lv_aload_n hx hb dX1_writeRows_51 rfl (lv_at hl 0 rfl) ?_
      refine va_get (D := D) (ci := 1) (v := .ref (ad (21 + j))) (C := RX1) (T := TX1) (N := 8) hx hb hts ni_X1_writeRows_X1 hown hK hP (13 + j) (rw_Fit hj) rfl 7 (by decide) (hts _ nf_X1_writeRows_f33) (fun _ h9 => h9) rfl dX1_writeRows_52 ?_
      refine lv_iload_n hx hb dX1_writeRows_55 rfl (lv_at hl 1 rfl) ?_
      obtain ⟨hv_9, h⟩ := ob_in_s h
      refine va_aldA hx hb hK hP (21 + j) 5 (rw_rows hj) rfl hv_9 dX1_writeRows_56 ?_
      refine W.eq (g2 := F0 m 57 ls [.ref (ad (139 + 8 * j + x1.toNatClampNeg))]) rfl ?_
      refine lv_iload_n hx hb dX1_writeRows_57 rfl (lv_at hl 1 rfl) ?_
      refine lv_aload_n hx hb dX1_writeRows_58 rfl (lv_at hl 0 rfl) ?_
      refine lv_iload_n hx hb dX1_writeRows_59 rfl (lv_at hl 1 rfl) ?_
      obtain ⟨r_11, S_12, hc_10, h⟩ := ob_2s h
      refine km_cVz (As := [.int x1]) (rest := [.int x1, .ref (ad (139 + 8 * j + x1.toNatClampNeg))]) C (kX1_isFirst hEE hj hc_10) (cwV 1 hts gX1_writeRows_X1_isFirst rfl rfl rfl (by decide +kernel) ⟨(Nat.le_of_ble_eq_true rfl), (Nat.le_of_ble_eq_true rfl)⟩) (rw_Fit hj) rfl rfl rfl hP hD hS hl.1 rfl (Nat.le_of_ble_eq_true rfl) dX1_writeRows_60 (fun H locs hP hD hS hz_13 => ?_)
      obtain ⟨tJ_14, hT_18, h⟩ := ob_js h
      have kJ_14 : ∀ (sJ_14_0 : Int64) (S_15 : RSt) (_ : tJ_14 sJ_14_0 S_15 = some S') (H : Heap) (locs : List Loc) (ls : Array Slot), va_P D vwCl ((rw_w cy ad) S_15) H → va_D A ((rw_w cy ad) S_15) → va_S A s.heap H locs → lv_has ls 3 [(0, .ref (ad (13 + j))), (1, .int x1)] → W p l e rmX1_writeRows s m args below meth c H locs 0 0 Q (F0 m 71 ls [.long sJ_14_0, .int x1, .ref (ad (139 + 8 * j + x1.toNatClampNeg))]) := by
        intro sJ_14_0 S_15 h H locs ls hP hD hS hl
        rw [← hT_18] at h
        obtain ⟨hv_16, h⟩ := ob_in_s h
        refine va_last hx hb hK hP hD hS (139 + 8 * j + x1.toNatClampNeg) 1 (rw_row hj (vp_lt hv_9)) rfl hv_16 dX1_writeRows_71 (fun H locs hP hD hS => ?_)
        have hP := st_ps (rw_s_row hj (vp_lt hv_9)) hP
        have hD := st_ds (rw_s_row hj (vp_lt hv_9)) hD
        refine lv_aload_n hx hb dX1_writeRows_72 rfl (lv_at hl 0 rfl) ?_
        refine va_get (D := D) (ci := 1) (v := .ref (ad (137 + j))) (C := RX1) (T := TX1) (N := 8) hx hb hts ni_X1_writeRows_X1 hown hK hP (13 + j) (rw_Fit hj) rfl 6 (by decide) (hts _ nf_X1_writeRows_f28) (fun _ h9 => h9) rfl dX1_writeRows_73 ?_
        refine lv_iload_n hx hb dX1_writeRows_76 rfl (lv_at hl 1 rfl) ?_
        refine lv_lconst (v := 0) hx hb dX1_writeRows_77 (by decide) ?_
        obtain ⟨hv_17, h⟩ := ob_in_s h
        refine va_last hx hb hK hP hD hS (137 + j) 1 (rw_pulls hj) rfl hv_17 dX1_writeRows_78 (fun H locs hP hD hS => ?_)
        have hP := st_ps (rw_s_pulls hj) hP
        have hD := st_ds (rw_s_pulls hj) hD
        refine lv_iinc (v := x1 + (1 : Int32)) (lv' := [(1, .int (x1 + (1 : Int32))), (0, .ref (ad (13 + j)))]) hx hb dX1_writeRows_79 hl (k := 1) rfl (congrArg (fun z => x1 + z) (by decide)) (by decide) rfl (fun ls hl => ?_)
        refine lv_goto (tgt := 2) hx hb dX1_writeRows_82 (by decide) ?_
        exact ih _ _ _ h hP hD hS (lv_sub hl [1, 0] rfl) kx0
      refine lv_if_eq (tgt := 70) hx hb dX1_writeRows_63 (by decide) (fun c_19 => ?_) (fun c_19 => ?_)
      · have h := ob_t c_19 h
        refine lv_lconst (v := 0) hx hb dX1_writeRows_70 (by decide) ?_
        exact kJ_14 _ _ h _ _ _ hP hD hS (lv_sub hl [0, 1] rfl)
      · have h := ob_f c_19 h
        refine lv_lconst (v := 1) hx hb dX1_writeRows_66 (by decide) ?_
        refine lv_goto (tgt := 71) hx hb dX1_writeRows_67 (by decide) ?_
        exact kJ_14 _ _ h _ _ _ hP hD hS (lv_sub hl [0, 1] rfl)
set_option maxHeartbeats 4000000 in
set_option maxRecDepth 100000 in
theorem kX1_writeRows_L87 {l : Launch} {D : va_G} {cy : Nat → ClassId} {ad : Nat → Nat} {E : ke_T} {j : Nat} (hj : j < 2) {p : Program} {e : Env} {s : State} {m : MethodId} {args : Array Value} {below : List Frame} {meth : Method} {c : Code} {A : Nat → Prop} {Q : State → Prop} (C : km_C p s m args meth c cX1_writeRows 3 RX1 wsX1_writeRows none D (rw_t cy) E A) : ∀ (n : Nat) (x1 : Int32) (S : RSt) (S' : RSt) (h : fX1_writeRows_L87 j n x1 S = some S') {H : Heap} {locs : List Loc} {ls : Array Slot} (hP : va_P D vwCl ((rw_w cy ad) S) H) (hD : va_D A ((rw_w cy ad) S)) (hS : va_S A s.heap H locs) (hl : lv_has ls 3 [(0, .ref (ad (13 + j))), (1, .int x1)]) (kx0 : ∀ (H : Heap) (locs : List Loc) (ls : Array Slot), va_P D vwCl ((rw_w cy ad) S') H → va_D A ((rw_w cy ad) S') → va_S A s.heap H locs → lv_has ls 3 [] → W p l e rmX1_writeRows s m args below meth c H locs 0 0 Q (F0 m 111 ls [])), W p l e rmX1_writeRows s m args below meth c H locs 0 0 Q (F0 m 87 ls []) := by
  obtain ⟨⟨hx, hb, hml, hown, hts⟩, hr, hlk, hK, hA, hE, hEE⟩ := id C
  intro n
  induction n with
  | zero =>
    intro x1 S S' h
    rw [fX1_writeRows_L87] at h
    cases h
  | succ n ih =>
    intro x1 S S' h H locs ls hP hD hS hl kx0
    rw [fX1_writeRows_L87] at h
    refine lv_iload_n hx hb dX1_writeRows_87 rfl (lv_at hl 1 rfl) ?_
    refine lv_aload_n hx hb dX1_writeRows_88 rfl (lv_at hl 0 rfl) ?_
    refine va_get (D := D) (ci := 1) (v := .int (st_i S (40 + 2 * j))) (C := RX1) (T := TX1) (N := 8) hx hb hts ni_X1_writeRows_X1 hown hK hP (13 + j) (rw_Fit hj) rfl 1 (by decide) (hts _ nf_X1_writeRows_f59) (fun _ h9 => h9) rfl dX1_writeRows_89 ?_
    refine lv_icmp_ge (tgt := 111) hx hb dX1_writeRows_92 (by decide) (fun c_22 => ?_) (fun c_22 => ?_)
    · have h := ob_t c_22 h
      cases h
      exact kx0 _ _ _ hP hD hS (lv_sub hl [] rfl)
    · have h := ob_f c_22 h
      refine lv_aload_n hx hb dX1_writeRows_95 rfl (lv_at hl 0 rfl) ?_
      refine lv_aload_n hx hb dX1_writeRows_96 rfl (lv_at hl 0 rfl) ?_
      refine va_get (D := D) (ci := 1) (v := .ref (ad (19 + j))) (C := RX1) (T := TX1) (N := 8) hx hb hts ni_X1_writeRows_X1 hown hK hP (13 + j) (rw_Fit hj) rfl 2 (by decide) (hts _ nf_X1_writeRows_f13) (fun _ h9 => h9) rfl dX1_writeRows_97 ?_
      refine lv_iload_n hx hb dX1_writeRows_100 rfl (lv_at hl 1 rfl) ?_
      obtain ⟨hv_23, h⟩ := ob_in_s h
      refine va_aldA hx hb hK hP (19 + j) 4 (rw_pairRows hj) rfl hv_23 dX1_writeRows_101 ?_
      refine W.eq (g2 := F0 m 102 ls [.ref (ad (51 + 42 * j + x1.toNatClampNeg)), .ref (ad (13 + j))]) rfl ?_
      obtain ⟨S_26, hc_24, h⟩ := ob_1s h
      refine km_cVv (As := [.ref (ad (51 + 42 * j + x1.toNatClampNeg))]) (rest := []) C (kX1_writePair hEE hj (vp_lt hv_23) hc_24) (cwV 1 hts gX1_writeRows_X1_writePair rfl rfl rfl (by decide +kernel) ⟨(Nat.le_of_ble_eq_true rfl), (Nat.le_of_ble_eq_true rfl)⟩) (rw_Fit hj) rfl rfl rfl hP hD hS hl.1 rfl (Nat.le_of_ble_eq_true rfl) dX1_writeRows_102 (fun H locs hP hD hS => ?_)
      refine lv_iinc (v := x1 + (1 : Int32)) (lv' := [(1, .int (x1 + (1 : Int32))), (0, .ref (ad (13 + j)))]) hx hb dX1_writeRows_105 hl (k := 1) rfl (congrArg (fun z => x1 + z) (by decide)) (by decide) rfl (fun ls hl => ?_)
      refine lv_goto (tgt := 87) hx hb dX1_writeRows_108 (by decide) ?_
      exact ih _ _ _ h hP hD hS (lv_sub hl [1, 0] rfl) kx0
set_option maxHeartbeats 4000000 in
set_option maxRecDepth 100000 in
theorem kX1_writeRows {l : Launch} {D : va_G} {cy : Nat → ClassId} {ad : Nat → Nat} {E : ke_T} (hEE : km_E E) {j : Nat} (hj : j < 2) {S : RSt} {S' : RSt} (h : fX1_writeRows j S = some S') : km_v l D (rw_t cy) (rw_w cy ad) E yX1_writeRows wsX1_writeRows rmX1_writeRows [.ref (ad (13 + j))] S S' := by
  refine km_v_in (cc := cX1_writeRows) (nL := 3) hEE (by decide) rfl (Nat.le_of_ble_eq_true rfl) ?_
  intro p e s m below meth c A H ls C hP hD hS hl
  have C : km_C p s m _ meth c cX1_writeRows 3 RX1 wsX1_writeRows none D (rw_t cy) E A := C
  obtain ⟨⟨hx, hb, hml, hown, hts⟩, hr, hlk, hK, hA, hE, hEE⟩ := id C
  have hl : lv_has ls 3 [(0, .ref (ad (13 + j)))] := hl
  unfold fX1_writeRows at h
  refine lv_iconst (v := 0) hx hb dX1_writeRows_0 (by decide) ?_
  refine lv_istore_n (lv' := [(1, .int (0 : Int32)), (0, .ref (ad (13 + j)))]) hx hb dX1_writeRows_1 rfl hl (by decide) rfl (fun ls hl => ?_)
  obtain ⟨S_21, hq_20, h⟩ := ob_1s h
  refine kX1_writeRows_L2 hj C _ _ _ _ hq_20 hP hD hS (lv_sub hl [1, 0] rfl) (fun H locs ls hP hD hS hl => ?_)
  refine lv_iconst (v := 0) hx hb dX1_writeRows_85 (by decide) ?_
  refine lv_istore_n (lv' := [(1, .int (0 : Int32)), (0, .ref (ad (13 + j)))]) hx hb dX1_writeRows_86 rfl hl (by decide) rfl (fun ls hl => ?_)
  obtain ⟨S_28, hq_27, h⟩ := ob_1s h
  refine kX1_writeRows_L87 hj C _ _ _ _ hq_27 hP hD hS (lv_sub hl [1, 0] rfl) (fun H locs ls hP hD hS hl => ?_)
  obtain rfl := ob_v h
  exact km_vret C hP hD hS dX1_writeRows_111
def fX1_clearCell_L21 (j : Nat) (i : Nat) (u : Nat) : Nat → Int64 → Int64 → Int64 → Int32 → RSt → Option (RSt)
  | 0, _, _, _, _, _ => none
  | n + 1, x4, x6, x8, x10, S => (if ((2 : Int32) * (st_i S (39 + 2 * j))) ≤ x10 then (some S) else (ob_in x10 16 (ob_in x10 16 (ob_nz x4 (ob_in x10 16 (fX1_clearCell_L21 j i u n x4 x6 x8 (x10 + (1 : Int32)) (st_sg S (4 + 8 * j + i) x10.toNatClampNeg ((((st_g S (4 + 8 * j + i) x10.toNatClampNeg) * x6) - ((st_g S (4 + 8 * j + u) x10.toNatClampNeg) * x8)) / x4))))))))
def fX1_clearCell (j : Nat) (i : Nat) (u : Nat) (x3 : Int32) (x4 : Int64) (S : RSt) : Option (RSt) := (if (lg_cmp x4 (0 : Int64)) = 0 then (some S) else (ob_in x3 16 (ob_in x3 16 (ob_1 (fX1_clearCell_L21 j i u 1000 x4 (st_g S (4 + 8 * j + u) x3.toNatClampNeg) (st_g S (4 + 8 * j + i) x3.toNatClampNeg) (0 : Int32) S) fun S_10 => (some S_10)))))
abbrev rmX1_clearCell : Room := { frames := 0, cells := 0, slots := 0, locals := 0 }
theorem nf_X1_clearCell_f42 : Cond.fieldLink RX1 42 "RepeatIndex$Fit" "months" "I" ∈ wsX1_clearCell := by decide +kernel
theorem ni_X1_clearCell_X1 : ∀ w ∈ u_ws RX1 TX1 8, w ∈ wsX1_clearCell := by decide +kernel
set_option maxHeartbeats 4000000 in
set_option maxRecDepth 100000 in
theorem kX1_clearCell_L21 {l : Launch} {D : va_G} {cy : Nat → ClassId} {ad : Nat → Nat} {E : ke_T} {j : Nat} (hj : j < 2) {i : Nat} (hi : i < 8) {u : Nat} (hu : u < 8) {p : Program} {e : Env} {s : State} {m : MethodId} {args : Array Value} {below : List Frame} {meth : Method} {c : Code} {A : Nat → Prop} {Q : State → Prop} (C : km_C p s m args meth c cX1_clearCell 11 RX1 wsX1_clearCell none D (rw_t cy) E A) : ∀ (n : Nat) (x4 : Int64) (x6 : Int64) (x8 : Int64) (x10 : Int32) (S : RSt) (S' : RSt) (h : fX1_clearCell_L21 j i u n x4 x6 x8 x10 S = some S') {H : Heap} {locs : List Loc} {ls : Array Slot} (hP : va_P D vwCl ((rw_w cy ad) S) H) (hD : va_D A ((rw_w cy ad) S)) (hS : va_S A s.heap H locs) (hl : lv_has ls 11 [(0, .ref (ad (13 + j))), (1, .ref (ad (139 + 8 * j + i))), (2, .ref (ad (139 + 8 * j + u))), (4, .long x4), (6, .long x6), (8, .long x8), (10, .int x10)]) (kx0 : ∀ (H : Heap) (locs : List Loc) (ls : Array Slot), va_P D vwCl ((rw_w cy ad) S') H → va_D A ((rw_w cy ad) S') → va_S A s.heap H locs → lv_has ls 11 [] → W p l e rmX1_clearCell s m args below meth c H locs 0 0 Q (F0 m 60 ls [])), W p l e rmX1_clearCell s m args below meth c H locs 0 0 Q (F0 m 21 ls []) := by
  obtain ⟨⟨hx, hb, hml, hown, hts⟩, hr, hlk, hK, hA, hE, hEE⟩ := id C
  intro n
  induction n with
  | zero =>
    intro x4 x6 x8 x10 S S' h
    rw [fX1_clearCell_L21] at h
    cases h
  | succ n ih =>
    intro x4 x6 x8 x10 S S' h H locs ls hP hD hS hl kx0
    rw [fX1_clearCell_L21] at h
    refine lv_iload hx hb dX1_clearCell_21 (lv_at hl 6 rfl) ?_
    refine lv_iconst (v := 2) hx hb dX1_clearCell_23 (by decide) ?_
    refine lv_aload_n hx hb dX1_clearCell_24 rfl (lv_at hl 0 rfl) ?_
    refine va_get (D := D) (ci := 1) (v := .int (st_i S (39 + 2 * j))) (C := RX1) (T := TX1) (N := 8) hx hb hts ni_X1_clearCell_X1 hown hK hP (13 + j) (rw_Fit hj) rfl 0 (by decide) (hts _ nf_X1_clearCell_f42) (fun _ h9 => h9) rfl dX1_clearCell_25 ?_
    refine lv_imul hx hb dX1_clearCell_28 ?_
    refine lv_icmp_ge (tgt := 60) hx hb dX1_clearCell_29 (by decide) (fun c_4 => ?_) (fun c_4 => ?_)
    · have h := ob_t c_4 h
      cases h
      exact kx0 _ _ _ hP hD hS (lv_sub hl [] rfl)
    · have h := ob_f c_4 h
      refine lv_aload_n hx hb dX1_clearCell_32 rfl (lv_at hl 1 rfl) ?_
      refine lv_iload hx hb dX1_clearCell_33 (lv_at hl 6 rfl) ?_
      refine lv_aload_n hx hb dX1_clearCell_35 rfl (lv_at hl 1 rfl) ?_
      refine lv_iload hx hb dX1_clearCell_36 (lv_at hl 6 rfl) ?_
      obtain ⟨hv_5, h⟩ := ob_in_s h
      refine va_lald hx hb hK hP (139 + 8 * j + i) 1 (rw_row hj hi) rfl hv_5 dX1_clearCell_38 ?_
      refine lv_lload hx hb dX1_clearCell_39 (lv_at hl 4 rfl) ?_
      refine lv_lmul hx hb dX1_clearCell_41 ?_
      refine lv_aload_n hx hb dX1_clearCell_42 rfl (lv_at hl 2 rfl) ?_
      refine lv_iload hx hb dX1_clearCell_43 (lv_at hl 6 rfl) ?_
      obtain ⟨hv_6, h⟩ := ob_in_s h
      refine va_lald hx hb hK hP (139 + 8 * j + u) 1 (rw_row hj hu) rfl hv_6 dX1_clearCell_45 ?_
      refine lv_lload hx hb dX1_clearCell_46 (lv_at hl 5 rfl) ?_
      refine lv_lmul hx hb dX1_clearCell_48 ?_
      refine lv_lsub hx hb dX1_clearCell_49 ?_
      refine lv_lload hx hb dX1_clearCell_50 (lv_at hl 3 rfl) ?_
      obtain ⟨hv_7, h⟩ := ob_nz_s h
      refine lv_ldiv hx hb dX1_clearCell_52 hv_7 ?_
      obtain ⟨hv_8, h⟩ := ob_in_s h
      refine va_last hx hb hK hP hD hS (139 + 8 * j + i) 1 (rw_row hj hi) rfl hv_8 dX1_clearCell_53 (fun H locs hP hD hS => ?_)
      have hP := st_ps (rw_s_row hj hi) hP
      have hD := st_ds (rw_s_row hj hi) hD
      refine lv_iinc (v := x10 + (1 : Int32)) (lv' := [(10, .int (x10 + (1 : Int32))), (0, .ref (ad (13 + j))), (1, .ref (ad (139 + 8 * j + i))), (2, .ref (ad (139 + 8 * j + u))), (4, .long x4), (6, .long x6), (8, .long x8)]) hx hb dX1_clearCell_54 hl (k := 6) rfl (congrArg (fun z => x10 + z) (by decide)) (by decide) rfl (fun ls hl => ?_)
      refine lv_goto (tgt := 21) hx hb dX1_clearCell_57 (by decide) ?_
      exact ih _ _ _ _ _ _ h hP hD hS (lv_sub hl [1, 2, 3, 4, 5, 6, 0] rfl) kx0
set_option maxHeartbeats 4000000 in
set_option maxRecDepth 100000 in
theorem kX1_clearCell {l : Launch} {D : va_G} {cy : Nat → ClassId} {ad : Nat → Nat} {E : ke_T} (hEE : km_E E) {j : Nat} (hj : j < 2) {i : Nat} (hi : i < 8) {u : Nat} (hu : u < 8) {x3 : Int32} {x4 : Int64} {S : RSt} {S' : RSt} (h : fX1_clearCell j i u x3 x4 S = some S') : km_v l D (rw_t cy) (rw_w cy ad) E yX1_clearCell wsX1_clearCell rmX1_clearCell [.ref (ad (13 + j)), .ref (ad (139 + 8 * j + i)), .ref (ad (139 + 8 * j + u)), .int x3, .long x4] S S' := by
  refine km_v_in (cc := cX1_clearCell) (nL := 11) hEE (by decide) rfl (Nat.le_of_ble_eq_true rfl) ?_
  intro p e s m below meth c A H ls C hP hD hS hl
  have C : km_C p s m _ meth c cX1_clearCell 11 RX1 wsX1_clearCell none D (rw_t cy) E A := C
  obtain ⟨⟨hx, hb, hml, hown, hts⟩, hr, hlk, hK, hA, hE, hEE⟩ := id C
  have hl : lv_has ls 11 [(0, .ref (ad (13 + j))), (1, .ref (ad (139 + 8 * j + i))), (2, .ref (ad (139 + 8 * j + u))), (3, .int x3), (4, .long x4)] := hl
  unfold fX1_clearCell at h
  refine lv_lload hx hb dX1_clearCell_0 (lv_at hl 4 rfl) ?_
  refine lv_lconst (v := 0) hx hb dX1_clearCell_2 (by decide) ?_
  refine W.lcmp hx hb dX1_clearCell_3 ?_
  refine lv_if_ne (tgt := 8) hx hb dX1_clearCell_4 (by decide) (fun c_1 => ?_) (fun c_1 => ?_)
  · have h := ob_f c_1 h
    refine lv_aload_n hx hb dX1_clearCell_8 rfl (lv_at hl 2 rfl) ?_
    refine lv_iload_n hx hb dX1_clearCell_9 rfl (lv_at hl 3 rfl) ?_
    obtain ⟨hv_2, h⟩ := ob_in_s h
    refine va_lald hx hb hK hP (139 + 8 * j + u) 1 (rw_row hj hu) rfl hv_2 dX1_clearCell_10 ?_
    refine lv_lstore (lv' := [(6, .long (st_g S (4 + 8 * j + u) x3.toNatClampNeg)), (0, .ref (ad (13 + j))), (1, .ref (ad (139 + 8 * j + i))), (2, .ref (ad (139 + 8 * j + u))), (3, .int x3), (4, .long x4)]) hx hb dX1_clearCell_11 hl (by decide) rfl (fun ls hl => ?_)
    refine lv_aload_n hx hb dX1_clearCell_13 rfl (lv_at hl 2 rfl) ?_
    refine lv_iload_n hx hb dX1_clearCell_14 rfl (lv_at hl 4 rfl) ?_
    obtain ⟨hv_3, h⟩ := ob_in_s h
    refine va_lald hx hb hK hP (139 + 8 * j + i) 1 (rw_row hj hi) rfl hv_3 dX1_clearCell_15 ?_
    refine lv_lstore (lv' := [(8, .long (st_g S (4 + 8 * j + i) x3.toNatClampNeg)), (6, .long (st_g S (4 + 8 * j + u) x3.toNatClampNeg)), (0, .ref (ad (13 + j))), (1, .ref (ad (139 + 8 * j + i))), (2, .ref (ad (139 + 8 * j + u))), (3, .int x3), (4, .long x4)]) hx hb dX1_clearCell_16 hl (by decide) rfl (fun ls hl => ?_)
    refine lv_iconst (v := 0) hx hb dX1_clearCell_18 (by decide) ?_
    refine lv_istore (lv' := [(10, .int (0 : Int32)), (8, .long (st_g S (4 + 8 * j + i) x3.toNatClampNeg)), (6, .long (st_g S (4 + 8 * j + u) x3.toNatClampNeg)), (0, .ref (ad (13 + j))), (1, .ref (ad (139 + 8 * j + i))), (2, .ref (ad (139 + 8 * j + u))), (3, .int x3), (4, .long x4)]) hx hb dX1_clearCell_19 hl (by decide) rfl (fun ls hl => ?_)
    obtain ⟨S_10, hq_9, h⟩ := ob_1s h
    refine kX1_clearCell_L21 hj hi hu C _ _ _ _ _ _ _ hq_9 hP hD hS (lv_sub hl [3, 4, 5, 7, 2, 1, 0] rfl) (fun H locs ls hP hD hS hl => ?_)
    obtain rfl := ob_v h
    exact km_vret C hP hD hS dX1_clearCell_60
  · have h := ob_t c_1 h
    obtain rfl := ob_v h
    exact km_vret C hP hD hS dX1_clearCell_7
def fX1_invertRows_L15 (j : Nat) : Nat → Int64 → Int32 → Int32 → RSt → Option (RSt)
  | 0, _, _, _, _ => none
  | n + 1, x1, x3, x4, S => (if (st_i S (39 + 2 * j)) ≤ x4 then (some S) else (if x4 = x3 then (fX1_invertRows_L15 j n x1 x3 (x4 + (1 : Int32)) S) else (ob_in x4 8 (ob_in x3 8 (ob_1 (fX1_clearCell j x4.toNatClampNeg x3.toNatClampNeg x3 x1 S) fun S_8 => (fX1_invertRows_L15 j n x1 x3 (x4 + (1 : Int32)) S_8))))))
def fX1_invertRows_L4 (j : Nat) : Nat → Int64 → Int32 → RSt → Option (Int64 × RSt)
  | 0, _, _, _ => none
  | n + 1, x1, x3, S => (if (st_i S (39 + 2 * j)) ≤ x3 then (some (x1, S)) else (ob_1 (fX1_invertRows_L15 j 1000 x1 x3 (0 : Int32) S) fun S_10 => (ob_in x3 8 (ob_in x3 16 (fX1_invertRows_L4 j n (st_g S_10 (4 + 8 * j + x3.toNatClampNeg) x3.toNatClampNeg) (x3 + (1 : Int32)) S_10)))))
def fX1_invertRows (j : Nat) (S : RSt) : Option (RSt) := (ob_2 (fX1_invertRows_L4 j 1000 (1 : Int64) (0 : Int32) S) fun o_15 S_14 => (some (st_sj S_14 j o_15)))
abbrev rmX1_invertRows : Room := { frames := 1, cells := 0, slots := 0, locals := 30 }
theorem nf_X1_invertRows_f42 : Cond.fieldLink RX1 42 "RepeatIndex$Fit" "months" "I" ∈ wsX1_invertRows := by decide +kernel
theorem ni_X1_invertRows_X1 : ∀ w ∈ u_ws RX1 TX1 8, w ∈ wsX1_invertRows := by decide +kernel
theorem nf_X1_invertRows_f33 : Cond.fieldLink RX1 33 "RepeatIndex$Fit" "rows" "[[J" ∈ wsX1_invertRows := by decide +kernel
theorem nf_X1_invertRows_f24 : Cond.fieldLink RX1 24 "RepeatIndex$Fit" "bottom" "J" ∈ wsX1_invertRows := by decide +kernel
set_option maxHeartbeats 4000000 in
set_option maxRecDepth 100000 in
theorem kX1_invertRows_L15 {l : Launch} {D : va_G} {cy : Nat → ClassId} {ad : Nat → Nat} {E : ke_T} {j : Nat} (hj : j < 2) {p : Program} {e : Env} {s : State} {m : MethodId} {args : Array Value} {below : List Frame} {meth : Method} {c : Code} {A : Nat → Prop} {Q : State → Prop} (C : km_C p s m args meth c cX1_invertRows 5 RX1 wsX1_invertRows none D (rw_t cy) E A) : ∀ (n : Nat) (x1 : Int64) (x3 : Int32) (x4 : Int32) (S : RSt) (S' : RSt) (h : fX1_invertRows_L15 j n x1 x3 x4 S = some S') {H : Heap} {locs : List Loc} {ls : Array Slot} (hP : va_P D vwCl ((rw_w cy ad) S) H) (hD : va_D A ((rw_w cy ad) S)) (hS : va_S A s.heap H locs) (hl : lv_has ls 5 [(0, .ref (ad (13 + j))), (1, .long x1), (3, .int x3), (4, .int x4)]) (kx0 : ∀ (H : Heap) (locs : List Loc) (ls : Array Slot), va_P D vwCl ((rw_w cy ad) S') H → va_D A ((rw_w cy ad) S') → va_S A s.heap H locs → lv_has ls 5 [(0, .ref (ad (13 + j))), (3, .int x3)] → W p l e rmX1_invertRows s m args below meth c H locs 0 0 Q (F0 m 55 ls [])), W p l e rmX1_invertRows s m args below meth c H locs 0 0 Q (F0 m 15 ls []) := by
  obtain ⟨⟨hx, hb, hml, hown, hts⟩, hr, hlk, hK, hA, hE, hEE⟩ := id C
  intro n
  induction n with
  | zero =>
    intro x1 x3 x4 S S' h
    rw [fX1_invertRows_L15] at h
    cases h
  | succ n ih =>
    intro x1 x3 x4 S S' h H locs ls hP hD hS hl kx0
    rw [fX1_invertRows_L15] at h
    refine lv_iload hx hb dX1_invertRows_15 (lv_at hl 3 rfl) ?_
    refine lv_aload_n hx hb dX1_invertRows_17 rfl (lv_at hl 0 rfl) ?_
    refine va_get (D := D) (ci := 1) (v := .int (st_i S (39 + 2 * j))) (C := RX1) (T := TX1) (N := 8) hx hb hts ni_X1_invertRows_X1 hown hK hP (13 + j) (rw_Fit hj) rfl 0 (by decide) (hts _ nf_X1_invertRows_f42) (fun _ h9 => h9) rfl dX1_invertRows_18 ?_
    refine lv_icmp_ge (tgt := 55) hx hb dX1_invertRows_21 (by decide) (fun c_2 => ?_) (fun c_2 => ?_)
    · have h := ob_t c_2 h
      cases h
      exact kx0 _ _ _ hP hD hS (lv_sub hl [0, 2] rfl)
    · have h := ob_f c_2 h
      refine lv_iload hx hb dX1_invertRows_24 (lv_at hl 3 rfl) ?_
      refine lv_iload_n hx hb dX1_invertRows_26 rfl (lv_at hl 2 rfl) ?_
      refine lv_icmp_eq (tgt := 49) hx hb dX1_invertRows_27 (by decide) (fun c_3 => ?_) (fun c_3 => ?_)
      · have h := ob_t c_3 h
        refine lv_iinc (v := x4 + (1 : Int32)) (lv' := [(4, .int (x4 + (1 : Int32))), (0, .ref (ad (13 + j))), (1, .long x1), (3, .int x3)]) hx hb dX1_invertRows_49 hl (k := 3) rfl (congrArg (fun z => x4 + z) (by decide)) (by decide) rfl (fun ls hl => ?_)
        refine lv_goto (tgt := 15) hx hb dX1_invertRows_52 (by decide) ?_
        exact ih _ _ _ _ _ h hP hD hS (lv_sub hl [1, 2, 3, 0] rfl) kx0
      · have h := ob_f c_3 h
        refine lv_aload_n hx hb dX1_invertRows_30 rfl (lv_at hl 0 rfl) ?_
        refine lv_aload_n hx hb dX1_invertRows_31 rfl (lv_at hl 0 rfl) ?_
        refine va_get (D := D) (ci := 1) (v := .ref (ad (21 + j))) (C := RX1) (T := TX1) (N := 8) hx hb hts ni_X1_invertRows_X1 hown hK hP (13 + j) (rw_Fit hj) rfl 7 (by decide) (hts _ nf_X1_invertRows_f33) (fun _ h9 => h9) rfl dX1_invertRows_32 ?_
        refine lv_iload hx hb dX1_invertRows_35 (lv_at hl 3 rfl) ?_
        obtain ⟨hv_4, h⟩ := ob_in_s h
        refine va_aldA hx hb hK hP (21 + j) 5 (rw_rows hj) rfl hv_4 dX1_invertRows_37 ?_
        refine W.eq (g2 := F0 m 38 ls [.ref (ad (139 + 8 * j + x4.toNatClampNeg)), .ref (ad (13 + j))]) rfl ?_
        refine lv_aload_n hx hb dX1_invertRows_38 rfl (lv_at hl 0 rfl) ?_
        refine va_get (D := D) (ci := 1) (v := .ref (ad (21 + j))) (C := RX1) (T := TX1) (N := 8) hx hb hts ni_X1_invertRows_X1 hown hK hP (13 + j) (rw_Fit hj) rfl 7 (by decide) (hts _ nf_X1_invertRows_f33) (fun _ h9 => h9) rfl dX1_invertRows_39 ?_
        refine lv_iload_n hx hb dX1_invertRows_42 rfl (lv_at hl 2 rfl) ?_
        obtain ⟨hv_5, h⟩ := ob_in_s h
        refine va_aldA hx hb hK hP (21 + j) 5 (rw_rows hj) rfl hv_5 dX1_invertRows_43 ?_
        refine W.eq (g2 := F0 m 44 ls [.ref (ad (139 + 8 * j + x3.toNatClampNeg)), .ref (ad (139 + 8 * j + x4.toNatClampNeg)), .ref (ad (13 + j))]) rfl ?_
        refine lv_iload_n hx hb dX1_invertRows_44 rfl (lv_at hl 2 rfl) ?_
        refine lv_lload_n hx hb dX1_invertRows_45 rfl (lv_at hl 1 rfl) ?_
        obtain ⟨S_8, hc_6, h⟩ := ob_1s h
        refine km_cVv (As := [.ref (ad (139 + 8 * j + x4.toNatClampNeg)), .ref (ad (139 + 8 * j + x3.toNatClampNeg)), .int x3, .long x1]) (rest := []) C (kX1_clearCell hEE hj (vp_lt hv_4) (vp_lt hv_5) hc_6) (cwV 4 hts gX1_invertRows_X1_clearCell rfl rfl rfl (by decide +kernel) ⟨(Nat.le_of_ble_eq_true rfl), (Nat.le_of_ble_eq_true rfl)⟩) (rw_Fit hj) rfl rfl rfl hP hD hS hl.1 rfl (Nat.le_of_ble_eq_true rfl) dX1_invertRows_46 (fun H locs hP hD hS => ?_)
        refine lv_iinc (v := x4 + (1 : Int32)) (lv' := [(4, .int (x4 + (1 : Int32))), (0, .ref (ad (13 + j))), (1, .long x1), (3, .int x3)]) hx hb dX1_invertRows_49 hl (k := 3) rfl (congrArg (fun z => x4 + z) (by decide)) (by decide) rfl (fun ls hl => ?_)
        refine lv_goto (tgt := 15) hx hb dX1_invertRows_52 (by decide) ?_
        exact ih _ _ _ _ _ h hP hD hS (lv_sub hl [1, 2, 3, 0] rfl) kx0
set_option maxHeartbeats 4000000 in
set_option maxRecDepth 100000 in
theorem kX1_invertRows_L4 {l : Launch} {D : va_G} {cy : Nat → ClassId} {ad : Nat → Nat} {E : ke_T} {j : Nat} (hj : j < 2) {p : Program} {e : Env} {s : State} {m : MethodId} {args : Array Value} {below : List Frame} {meth : Method} {c : Code} {A : Nat → Prop} {Q : State → Prop} (C : km_C p s m args meth c cX1_invertRows 5 RX1 wsX1_invertRows none D (rw_t cy) E A) : ∀ (n : Nat) (x1 : Int64) (x3 : Int32) (S : RSt) (o1 : Int64) (S' : RSt) (h : fX1_invertRows_L4 j n x1 x3 S = some (o1, S')) {H : Heap} {locs : List Loc} {ls : Array Slot} (hP : va_P D vwCl ((rw_w cy ad) S) H) (hD : va_D A ((rw_w cy ad) S)) (hS : va_S A s.heap H locs) (hl : lv_has ls 5 [(0, .ref (ad (13 + j))), (1, .long x1), (3, .int x3)]) (kx0 : ∀ (H : Heap) (locs : List Loc) (ls : Array Slot), va_P D vwCl ((rw_w cy ad) S') H → va_D A ((rw_w cy ad) S') → va_S A s.heap H locs → lv_has ls 5 [(0, .ref (ad (13 + j))), (1, .long o1)] → W p l e rmX1_invertRows s m args below meth c H locs 0 0 Q (F0 m 70 ls [])), W p l e rmX1_invertRows s m args below meth c H locs 0 0 Q (F0 m 4 ls []) := by
  obtain ⟨⟨hx, hb, hml, hown, hts⟩, hr, hlk, hK, hA, hE, hEE⟩ := id C
  intro n
  induction n with
  | zero =>
    intro x1 x3 S o1 S' h
    rw [fX1_invertRows_L4] at h
    cases h
  | succ n ih =>
    intro x1 x3 S o1 S' h H locs ls hP hD hS hl kx0
    rw [fX1_invertRows_L4] at h
    refine lv_iload_n hx hb dX1_invertRows_4 rfl (lv_at hl 2 rfl) ?_
    refine lv_aload_n hx hb dX1_invertRows_5 rfl (lv_at hl 0 rfl) ?_
    refine va_get (D := D) (ci := 1) (v := .int (st_i S (39 + 2 * j))) (C := RX1) (T := TX1) (N := 8) hx hb hts ni_X1_invertRows_X1 hown hK hP (13 + j) (rw_Fit hj) rfl 0 (by decide) (hts _ nf_X1_invertRows_f42) (fun _ h9 => h9) rfl dX1_invertRows_6 ?_
    refine lv_icmp_ge (tgt := 70) hx hb dX1_invertRows_9 (by decide) (fun c_1 => ?_) (fun c_1 => ?_)
    · have h := ob_t c_1 h
      cases h
      exact kx0 _ _ _ hP hD hS (lv_sub hl [0, 1] rfl)
    · have h := ob_f c_1 h
      refine lv_iconst (v := 0) hx hb dX1_invertRows_12 (by decide) ?_
      refine lv_istore (lv' := [(4, .int (0 : Int32)), (0, .ref (ad (13 + j))), (1, .long x1), (3, .int x3)]) hx hb dX1_invertRows_13 hl (by decide) rfl (fun ls hl => ?_)
      obtain ⟨S_10, hq_9, h⟩ := ob_1s h
      refine kX1_invertRows_L15 hj C _ _ _ _ _ _ hq_9 hP hD hS (lv_sub hl [1, 2, 3, 0] rfl) (fun H locs ls hP hD hS hl => ?_)
      refine lv_aload_n hx hb dX1_invertRows_55 rfl (lv_at hl 0 rfl) ?_
      refine va_get (D := D) (ci := 1) (v := .ref (ad (21 + j))) (C := RX1) (T := TX1) (N := 8) hx hb hts ni_X1_invertRows_X1 hown hK hP (13 + j) (rw_Fit hj) rfl 7 (by decide) (hts _ nf_X1_invertRows_f33) (fun _ h9 => h9) rfl dX1_invertRows_56 ?_
      refine lv_iload_n hx hb dX1_invertRows_59 rfl (lv_at hl 1 rfl) ?_
      obtain ⟨hv_11, h⟩ := ob_in_s h
      refine va_aldA hx hb hK hP (21 + j) 5 (rw_rows hj) rfl hv_11 dX1_invertRows_60 ?_
      refine W.eq (g2 := F0 m 61 ls [.ref (ad (139 + 8 * j + x3.toNatClampNeg))]) rfl ?_
      refine lv_iload_n hx hb dX1_invertRows_61 rfl (lv_at hl 1 rfl) ?_
      obtain ⟨hv_12, h⟩ := ob_in_s h
      refine va_lald hx hb hK hP (139 + 8 * j + x3.toNatClampNeg) 1 (rw_row hj (vp_lt hv_11)) rfl hv_12 dX1_invertRows_62 ?_
      refine lv_lstore_n (lv' := [(1, .long (st_g S_10 (4 + 8 * j + x3.toNatClampNeg) x3.toNatClampNeg)), (0, .ref (ad (13 + j))), (3, .int x3)]) hx hb dX1_invertRows_63 rfl hl (by decide) rfl (fun ls hl => ?_)
      refine lv_iinc (v := x3 + (1 : Int32)) (lv' := [(3, .int (x3 + (1 : Int32))), (1, .long (st_g S_10 (4 + 8 * j + x3.toNatClampNeg) x3.toNatClampNeg)), (0, .ref (ad (13 + j)))]) hx hb dX1_invertRows_64 hl (k := 2) rfl (congrArg (fun z => x3 + z) (by decide)) (by decide) rfl (fun ls hl => ?_)
      refine lv_goto (tgt := 4) hx hb dX1_invertRows_67 (by decide) ?_
      exact ih _ _ _ _ _ h hP hD hS (lv_sub hl [2, 1, 0] rfl) kx0
set_option maxHeartbeats 4000000 in
set_option maxRecDepth 100000 in
theorem kX1_invertRows {l : Launch} {D : va_G} {cy : Nat → ClassId} {ad : Nat → Nat} {E : ke_T} (hEE : km_E E) {j : Nat} (hj : j < 2) {S : RSt} {S' : RSt} (h : fX1_invertRows j S = some S') : km_v l D (rw_t cy) (rw_w cy ad) E yX1_invertRows wsX1_invertRows rmX1_invertRows [.ref (ad (13 + j))] S S' := by
  refine km_v_in (cc := cX1_invertRows) (nL := 5) hEE (by decide) rfl (Nat.le_of_ble_eq_true rfl) ?_
  intro p e s m below meth c A H ls C hP hD hS hl
  have C : km_C p s m _ meth c cX1_invertRows 5 RX1 wsX1_invertRows none D (rw_t cy) E A := C
  obtain ⟨⟨hx, hb, hml, hown, hts⟩, hr, hlk, hK, hA, hE, hEE⟩ := id C
  have hl : lv_has ls 5 [(0, .ref (ad (13 + j)))] := hl
  unfold fX1_invertRows at h
  refine lv_lconst (v := 1) hx hb dX1_invertRows_0 (by decide) ?_
  refine lv_lstore_n (lv' := [(1, .long (1 : Int64)), (0, .ref (ad (13 + j)))]) hx hb dX1_invertRows_1 rfl hl (by decide) rfl (fun ls hl => ?_)
  refine lv_iconst (v := 0) hx hb dX1_invertRows_2 (by decide) ?_
  refine lv_istore_n (lv' := [(3, .int (0 : Int32)), (1, .long (1 : Int64)), (0, .ref (ad (13 + j)))]) hx hb dX1_invertRows_3 rfl hl (by decide) rfl (fun ls hl => ?_)
  obtain ⟨o_15, S_14, hq_13, h⟩ := ob_2s h
  refine kX1_invertRows_L4 hj C _ _ _ _ _ _ hq_13 hP hD hS (lv_sub hl [2, 1, 0] rfl) (fun H locs ls hP hD hS hl => ?_)
  refine lv_aload_n hx hb dX1_invertRows_70 rfl (lv_at hl 0 rfl) ?_
  refine lv_lload_n hx hb dX1_invertRows_71 rfl (lv_at hl 1 rfl) ?_
  refine va_put (D := D) (ci := 1) (v := .long o_15) (ty := .long) (C := RX1) (T := TX1) (N := 8) hx hb hts ni_X1_invertRows_X1 tyX1 tyX1_ok nmX1 hown hK hP hD hS (13 + j) (rw_Fit hj) rfl 5 (by decide) (hts _ nf_X1_invertRows_f24) (fun _ h9 => h9) rfl (by decide +kernel) rfl rfl (Nat.le_of_ble_eq_true rfl) dX1_invertRows_72 (fun H locs hP hD hS => ?_)
  have hP := st_ps (rw_s_Fit_bottom hj) hP
  have hD := st_ds (rw_s_Fit_bottom hj) hD
  obtain rfl := ob_v h
  exact km_vret C hP hD hS dX1_invertRows_75
def fX1_writeTops_L15 (j : Nat) : Nat → Int32 → Int64 → Int32 → RSt → Option (Int64 × RSt)
  | 0, _, _, _, _ => none
  | n + 1, x1, x2, x4, S => (if (st_i S (39 + 2 * j)) ≤ x4 then (some (x2, S)) else (ob_in x1 8 (ob_in ((st_i S (39 + 2 * j)) + x4) 16 (ob_in x4 8 (fX1_writeTops_L15 j n x1 (x2 + ((st_g S (4 + 8 * j + x1.toNatClampNeg) ((st_i S (39 + 2 * j)) + x4).toNatClampNeg) * (st_g S (2 + j) x4.toNatClampNeg))) (x4 + (1 : Int32)) S)))))
def fX1_writeTops_L2 (j : Nat) : Nat → Int32 → RSt → Option (RSt)
  | 0, _, _ => none
  | n + 1, x1, S => (if (st_i S (39 + 2 * j)) ≤ x1 then (some S) else (ob_2 (fX1_writeTops_L15 j 1000 x1 (0 : Int64) (0 : Int32) S) fun o_8 S_7 => (ob_in x1 8 (fX1_writeTops_L2 j n (x1 + (1 : Int32)) (st_sg S_7 j x1.toNatClampNeg o_8)))))
def fX1_writeTops (j : Nat) (S : RSt) : Option (RSt) := (ob_1 (fX1_writeTops_L2 j 1000 (0 : Int32) S) fun S_11 => (some S_11))
abbrev rmX1_writeTops : Room := { frames := 0, cells := 0, slots := 0, locals := 0 }
theorem nf_X1_writeTops_f42 : Cond.fieldLink RX1 42 "RepeatIndex$Fit" "months" "I" ∈ wsX1_writeTops := by decide +kernel
theorem ni_X1_writeTops_X1 : ∀ w ∈ u_ws RX1 TX1 8, w ∈ wsX1_writeTops := by decide +kernel
theorem nf_X1_writeTops_f33 : Cond.fieldLink RX1 33 "RepeatIndex$Fit" "rows" "[[J" ∈ wsX1_writeTops := by decide +kernel
theorem nf_X1_writeTops_f28 : Cond.fieldLink RX1 28 "RepeatIndex$Fit" "pulls" "[J" ∈ wsX1_writeTops := by decide +kernel
theorem nf_X1_writeTops_f20 : Cond.fieldLink RX1 20 "RepeatIndex$Fit" "tops" "[J" ∈ wsX1_writeTops := by decide +kernel
set_option maxHeartbeats 4000000 in
set_option maxRecDepth 100000 in
theorem kX1_writeTops_L15 {l : Launch} {D : va_G} {cy : Nat → ClassId} {ad : Nat → Nat} {E : ke_T} {j : Nat} (hj : j < 2) {p : Program} {e : Env} {s : State} {m : MethodId} {args : Array Value} {below : List Frame} {meth : Method} {c : Code} {A : Nat → Prop} {Q : State → Prop} (C : km_C p s m args meth c cX1_writeTops 5 RX1 wsX1_writeTops none D (rw_t cy) E A) : ∀ (n : Nat) (x1 : Int32) (x2 : Int64) (x4 : Int32) (S : RSt) (o2 : Int64) (S' : RSt) (h : fX1_writeTops_L15 j n x1 x2 x4 S = some (o2, S')) {H : Heap} {locs : List Loc} {ls : Array Slot} (hP : va_P D vwCl ((rw_w cy ad) S) H) (hD : va_D A ((rw_w cy ad) S)) (hS : va_S A s.heap H locs) (hl : lv_has ls 5 [(0, .ref (ad (13 + j))), (1, .int x1), (2, .long x2), (4, .int x4)]) (kx0 : ∀ (H : Heap) (locs : List Loc) (ls : Array Slot), va_P D vwCl ((rw_w cy ad) S') H → va_D A ((rw_w cy ad) S') → va_S A s.heap H locs → lv_has ls 5 [(0, .ref (ad (13 + j))), (1, .int x1), (2, .long o2)] → W p l e rmX1_writeTops s m args below meth c H locs 0 0 Q (F0 m 55 ls [])), W p l e rmX1_writeTops s m args below meth c H locs 0 0 Q (F0 m 15 ls []) := by
  obtain ⟨⟨hx, hb, hml, hown, hts⟩, hr, hlk, hK, hA, hE, hEE⟩ := id C
  intro n
  induction n with
  | zero =>
    intro x1 x2 x4 S o2 S' h
    rw [fX1_writeTops_L15] at h
    cases h
  | succ n ih =>
    intro x1 x2 x4 S o2 S' h H locs ls hP hD hS hl kx0
    rw [fX1_writeTops_L15] at h
    refine lv_iload hx hb dX1_writeTops_15 (lv_at hl 3 rfl) ?_
    refine lv_aload_n hx hb dX1_writeTops_17 rfl (lv_at hl 0 rfl) ?_
    refine va_get (D := D) (ci := 1) (v := .int (st_i S (39 + 2 * j))) (C := RX1) (T := TX1) (N := 8) hx hb hts ni_X1_writeTops_X1 hown hK hP (13 + j) (rw_Fit hj) rfl 0 (by decide) (hts _ nf_X1_writeTops_f42) (fun _ h9 => h9) rfl dX1_writeTops_18 ?_
    refine lv_icmp_ge (tgt := 55) hx hb dX1_writeTops_21 (by decide) (fun c_2 => ?_) (fun c_2 => ?_)
    · have h := ob_t c_2 h
      cases h
      exact kx0 _ _ _ hP hD hS (lv_sub hl [0, 1, 2] rfl)
    · have h := ob_f c_2 h
      refine lv_lload_n hx hb dX1_writeTops_24 rfl (lv_at hl 2 rfl) ?_
      refine lv_aload_n hx hb dX1_writeTops_25 rfl (lv_at hl 0 rfl) ?_
      refine va_get (D := D) (ci := 1) (v := .ref (ad (21 + j))) (C := RX1) (T := TX1) (N := 8) hx hb hts ni_X1_writeTops_X1 hown hK hP (13 + j) (rw_Fit hj) rfl 7 (by decide) (hts _ nf_X1_writeTops_f33) (fun _ h9 => h9) rfl dX1_writeTops_26 ?_
      refine lv_iload_n hx hb dX1_writeTops_29 rfl (lv_at hl 1 rfl) ?_
      obtain ⟨hv_3, h⟩ := ob_in_s h
      refine va_aldA hx hb hK hP (21 + j) 5 (rw_rows hj) rfl hv_3 dX1_writeTops_30 ?_
      refine W.eq (g2 := F0 m 31 ls [.ref (ad (139 + 8 * j + x1.toNatClampNeg)), .long x2]) rfl ?_
      refine lv_aload_n hx hb dX1_writeTops_31 rfl (lv_at hl 0 rfl) ?_
      refine va_get (D := D) (ci := 1) (v := .int (st_i S (39 + 2 * j))) (C := RX1) (T := TX1) (N := 8) hx hb hts ni_X1_writeTops_X1 hown hK hP (13 + j) (rw_Fit hj) rfl 0 (by decide) (hts _ nf_X1_writeTops_f42) (fun _ h9 => h9) rfl dX1_writeTops_32 ?_
      refine lv_iload hx hb dX1_writeTops_35 (lv_at hl 3 rfl) ?_
      refine lv_iadd hx hb dX1_writeTops_37 ?_
      obtain ⟨hv_4, h⟩ := ob_in_s h
      refine va_lald hx hb hK hP (139 + 8 * j + x1.toNatClampNeg) 1 (rw_row hj (vp_lt hv_3)) rfl hv_4 dX1_writeTops_38 ?_
      refine lv_aload_n hx hb dX1_writeTops_39 rfl (lv_at hl 0 rfl) ?_
      refine va_get (D := D) (ci := 1) (v := .ref (ad (137 + j))) (C := RX1) (T := TX1) (N := 8) hx hb hts ni_X1_writeTops_X1 hown hK hP (13 + j) (rw_Fit hj) rfl 6 (by decide) (hts _ nf_X1_writeTops_f28) (fun _ h9 => h9) rfl dX1_writeTops_40 ?_
      refine lv_iload hx hb dX1_writeTops_43 (lv_at hl 3 rfl) ?_
      obtain ⟨hv_5, h⟩ := ob_in_s h
      refine va_lald hx hb hK hP (137 + j) 1 (rw_pulls hj) rfl hv_5 dX1_writeTops_45 ?_
      refine lv_lmul hx hb dX1_writeTops_46 ?_
      refine lv_ladd hx hb dX1_writeTops_47 ?_
      refine lv_lstore_n (lv' := [(2, .long (x2 + ((st_g S (4 + 8 * j + x1.toNatClampNeg) ((st_i S (39 + 2 * j)) + x4).toNatClampNeg) * (st_g S (2 + j) x4.toNatClampNeg)))), (0, .ref (ad (13 + j))), (1, .int x1), (4, .int x4)]) hx hb dX1_writeTops_48 rfl hl (by decide) rfl (fun ls hl => ?_)
      refine lv_iinc (v := x4 + (1 : Int32)) (lv' := [(4, .int (x4 + (1 : Int32))), (2, .long (x2 + ((st_g S (4 + 8 * j + x1.toNatClampNeg) ((st_i S (39 + 2 * j)) + x4).toNatClampNeg) * (st_g S (2 + j) x4.toNatClampNeg)))), (0, .ref (ad (13 + j))), (1, .int x1)]) hx hb dX1_writeTops_49 hl (k := 3) rfl (congrArg (fun z => x4 + z) (by decide)) (by decide) rfl (fun ls hl => ?_)
      refine lv_goto (tgt := 15) hx hb dX1_writeTops_52 (by decide) ?_
      exact ih _ _ _ _ _ _ h hP hD hS (lv_sub hl [2, 3, 1, 0] rfl) kx0
set_option maxHeartbeats 4000000 in
set_option maxRecDepth 100000 in
theorem kX1_writeTops_L2 {l : Launch} {D : va_G} {cy : Nat → ClassId} {ad : Nat → Nat} {E : ke_T} {j : Nat} (hj : j < 2) {p : Program} {e : Env} {s : State} {m : MethodId} {args : Array Value} {below : List Frame} {meth : Method} {c : Code} {A : Nat → Prop} {Q : State → Prop} (C : km_C p s m args meth c cX1_writeTops 5 RX1 wsX1_writeTops none D (rw_t cy) E A) : ∀ (n : Nat) (x1 : Int32) (S : RSt) (S' : RSt) (h : fX1_writeTops_L2 j n x1 S = some S') {H : Heap} {locs : List Loc} {ls : Array Slot} (hP : va_P D vwCl ((rw_w cy ad) S) H) (hD : va_D A ((rw_w cy ad) S)) (hS : va_S A s.heap H locs) (hl : lv_has ls 5 [(0, .ref (ad (13 + j))), (1, .int x1)]) (kx0 : ∀ (H : Heap) (locs : List Loc) (ls : Array Slot), va_P D vwCl ((rw_w cy ad) S') H → va_D A ((rw_w cy ad) S') → va_S A s.heap H locs → lv_has ls 5 [] → W p l e rmX1_writeTops s m args below meth c H locs 0 0 Q (F0 m 68 ls [])), W p l e rmX1_writeTops s m args below meth c H locs 0 0 Q (F0 m 2 ls []) := by
  obtain ⟨⟨hx, hb, hml, hown, hts⟩, hr, hlk, hK, hA, hE, hEE⟩ := id C
  intro n
  induction n with
  | zero =>
    intro x1 S S' h
    rw [fX1_writeTops_L2] at h
    cases h
  | succ n ih =>
    intro x1 S S' h H locs ls hP hD hS hl kx0
    rw [fX1_writeTops_L2] at h
    refine lv_iload_n hx hb dX1_writeTops_2 rfl (lv_at hl 1 rfl) ?_
    refine lv_aload_n hx hb dX1_writeTops_3 rfl (lv_at hl 0 rfl) ?_
    refine va_get (D := D) (ci := 1) (v := .int (st_i S (39 + 2 * j))) (C := RX1) (T := TX1) (N := 8) hx hb hts ni_X1_writeTops_X1 hown hK hP (13 + j) (rw_Fit hj) rfl 0 (by decide) (hts _ nf_X1_writeTops_f42) (fun _ h9 => h9) rfl dX1_writeTops_4 ?_
    refine lv_icmp_ge (tgt := 68) hx hb dX1_writeTops_7 (by decide) (fun c_1 => ?_) (fun c_1 => ?_)
    · have h := ob_t c_1 h
      cases h
      exact kx0 _ _ _ hP hD hS (lv_sub hl [] rfl)
    · have h := ob_f c_1 h
      refine lv_lconst (v := 0) hx hb dX1_writeTops_10 (by decide) ?_
      refine lv_lstore_n (lv' := [(2, .long (0 : Int64)), (0, .ref (ad (13 + j))), (1, .int x1)]) hx hb dX1_writeTops_11 rfl hl (by decide) rfl (fun ls hl => ?_)
      refine lv_iconst (v := 0) hx hb dX1_writeTops_12 (by decide) ?_
      refine lv_istore (lv' := [(4, .int (0 : Int32)), (2, .long (0 : Int64)), (0, .ref (ad (13 + j))), (1, .int x1)]) hx hb dX1_writeTops_13 hl (by decide) rfl (fun ls hl => ?_)
      obtain ⟨o_8, S_7, hq_6, h⟩ := ob_2s h
      refine kX1_writeTops_L15 hj C _ _ _ _ _ _ _ hq_6 hP hD hS (lv_sub hl [2, 3, 1, 0] rfl) (fun H locs ls hP hD hS hl => ?_)
      refine lv_aload_n hx hb dX1_writeTops_55 rfl (lv_at hl 0 rfl) ?_
      refine va_get (D := D) (ci := 1) (v := .ref (ad (135 + j))) (C := RX1) (T := TX1) (N := 8) hx hb hts ni_X1_writeTops_X1 hown hK hP (13 + j) (rw_Fit hj) rfl 4 (by decide) (hts _ nf_X1_writeTops_f20) (fun _ h9 => h9) rfl dX1_writeTops_56 ?_
      refine lv_iload_n hx hb dX1_writeTops_59 rfl (lv_at hl 1 rfl) ?_
      refine lv_lload_n hx hb dX1_writeTops_60 rfl (lv_at hl 2 rfl) ?_
      obtain ⟨hv_9, h⟩ := ob_in_s h
      refine va_last hx hb hK hP hD hS (135 + j) 1 (rw_tops hj) rfl hv_9 dX1_writeTops_61 (fun H locs hP hD hS => ?_)
      have hP := st_ps (rw_s_tops hj) hP
      have hD := st_ds (rw_s_tops hj) hD
      refine lv_iinc (v := x1 + (1 : Int32)) (lv' := [(1, .int (x1 + (1 : Int32))), (0, .ref (ad (13 + j))), (2, .long o_8)]) hx hb dX1_writeTops_62 hl (k := 1) rfl (congrArg (fun z => x1 + z) (by decide)) (by decide) rfl (fun ls hl => ?_)
      refine lv_goto (tgt := 2) hx hb dX1_writeTops_65 (by decide) ?_
      exact ih _ _ _ h hP hD hS (lv_sub hl [1, 0] rfl) kx0
set_option maxHeartbeats 4000000 in
set_option maxRecDepth 100000 in
theorem kX1_writeTops {l : Launch} {D : va_G} {cy : Nat → ClassId} {ad : Nat → Nat} {E : ke_T} (hEE : km_E E) {j : Nat} (hj : j < 2) {S : RSt} {S' : RSt} (h : fX1_writeTops j S = some S') : km_v l D (rw_t cy) (rw_w cy ad) E yX1_writeTops wsX1_writeTops rmX1_writeTops [.ref (ad (13 + j))] S S' := by
  refine km_v_in (cc := cX1_writeTops) (nL := 5) hEE (by decide) rfl (Nat.le_of_ble_eq_true rfl) ?_
  intro p e s m below meth c A H ls C hP hD hS hl
  have C : km_C p s m _ meth c cX1_writeTops 5 RX1 wsX1_writeTops none D (rw_t cy) E A := C
  obtain ⟨⟨hx, hb, hml, hown, hts⟩, hr, hlk, hK, hA, hE, hEE⟩ := id C
  have hl : lv_has ls 5 [(0, .ref (ad (13 + j)))] := hl
  unfold fX1_writeTops at h
  refine lv_iconst (v := 0) hx hb dX1_writeTops_0 (by decide) ?_
  refine lv_istore_n (lv' := [(1, .int (0 : Int32)), (0, .ref (ad (13 + j)))]) hx hb dX1_writeTops_1 rfl hl (by decide) rfl (fun ls hl => ?_)
  obtain ⟨S_11, hq_10, h⟩ := ob_1s h
  refine kX1_writeTops_L2 hj C _ _ _ _ hq_10 hP hD hS (lv_sub hl [1, 0] rfl) (fun H locs ls hP hD hS hl => ?_)
  obtain rfl := ob_v h
  exact km_vret C hP hD hS dX1_writeTops_68
def fX1_solve (j : Nat) (u : Nat) (S : RSt) : Option (RSt) := (ob_1 (fX1_listPairs j u (st_si S (39 + 2 * j) (st_i S (3 * u)))) fun S_3 => (ob_1 (fX1_joinParts j S_3) fun S_6 => (ob_1 (fX1_writeRows j S_6) fun S_9 => (ob_1 (fX1_invertRows j S_9) fun S_12 => (ob_1 (fX1_writeTops j S_12) fun S_15 => (some S_15))))))
abbrev rmX1_solve : Room := { frames := 4, cells := 0, slots := 0, locals := 92 }
theorem nf_X1_solve_f36 : Cond.fieldLink RX1 36 "RepeatIndex$Book" "months" "I" ∈ wsX1_solve := by decide +kernel
theorem ni_X1_solve_X0 : ∀ w ∈ u_ws RX0 TX0 5, w ∈ wsX1_solve := by decide +kernel
theorem nf_X1_solve_f42 : Cond.fieldLink RX1 42 "RepeatIndex$Fit" "months" "I" ∈ wsX1_solve := by decide +kernel
theorem ni_X1_solve_X1 : ∀ w ∈ u_ws RX1 TX1 8, w ∈ wsX1_solve := by decide +kernel
set_option maxHeartbeats 4000000 in
set_option maxRecDepth 100000 in
theorem kX1_solve {l : Launch} {D : va_G} {cy : Nat → ClassId} {ad : Nat → Nat} {E : ke_T} (hEE : km_E E) {j : Nat} (hj : j < 2) {u : Nat} (hu : u < 13) {S : RSt} {S' : RSt} (h : fX1_solve j u S = some S') : km_v l D (rw_t cy) (rw_w cy ad) E yX1_solve wsX1_solve rmX1_solve [.ref (ad (13 + j)), .ref (ad u)] S S' := by
  refine km_v_in (cc := cX1_solve) (nL := 2) hEE (by decide) rfl (Nat.le_of_ble_eq_true rfl) ?_
  intro p e s m below meth c A H ls C hP hD hS hl
  have C : km_C p s m _ meth c cX1_solve 2 RX1 wsX1_solve none D (rw_t cy) E A := C
  obtain ⟨⟨hx, hb, hml, hown, hts⟩, hr, hlk, hK, hA, hE, hEE⟩ := id C
  have hl : lv_has ls 2 [(0, .ref (ad (13 + j))), (1, .ref (ad u))] := hl
  unfold fX1_solve at h
  refine lv_aload_n hx hb dX1_solve_0 rfl (lv_at hl 0 rfl) ?_
  refine lv_aload_n hx hb dX1_solve_1 rfl (lv_at hl 1 rfl) ?_
  refine va_get (D := D) (ci := 0) (v := .int (st_i S (3 * u))) (C := RX0) (T := TX0) (N := 5) hx hb hts ni_X1_solve_X0 hown hK hP u (rw_Book hu) rfl 0 (by decide) (hts _ nf_X1_solve_f36) (fun _ h9 => h9) rfl dX1_solve_2 ?_
  refine va_put (D := D) (ci := 1) (v := .int (st_i S (3 * u))) (ty := .int) (C := RX1) (T := TX1) (N := 8) hx hb hts ni_X1_solve_X1 tyX1 tyX1_ok nmX1 hown hK hP hD hS (13 + j) (rw_Fit hj) rfl 0 (by decide) (hts _ nf_X1_solve_f42) (fun _ h9 => h9) rfl (by decide +kernel) rfl rfl (Nat.le_of_ble_eq_true rfl) dX1_solve_5 (fun H locs hP hD hS => ?_)
  have hP := st_ps (rw_s_Fit_months hj) hP
  have hD := st_ds (rw_s_Fit_months hj) hD
  refine lv_aload_n hx hb dX1_solve_8 rfl (lv_at hl 0 rfl) ?_
  refine lv_aload_n hx hb dX1_solve_9 rfl (lv_at hl 1 rfl) ?_
  obtain ⟨S_3, hc_1, h⟩ := ob_1s h
  refine km_cVv (As := [.ref (ad u)]) (rest := []) C (kX1_listPairs hEE hj hu hc_1) (cwV 1 hts gX1_solve_X1_listPairs rfl rfl rfl (by decide +kernel) ⟨(Nat.le_of_ble_eq_true rfl), (Nat.le_of_ble_eq_true rfl)⟩) (rw_Fit hj) rfl rfl rfl hP hD hS hl.1 rfl (Nat.le_of_ble_eq_true rfl) dX1_solve_10 (fun H locs hP hD hS => ?_)
  refine lv_aload_n hx hb dX1_solve_13 rfl (lv_at hl 0 rfl) ?_
  obtain ⟨S_6, hc_4, h⟩ := ob_1s h
  refine km_cVv (As := []) (rest := []) C (kX1_joinParts hEE hj hc_4) (cwV 0 hts gX1_solve_X1_joinParts rfl rfl rfl (by decide +kernel) ⟨(Nat.le_of_ble_eq_true rfl), (Nat.le_of_ble_eq_true rfl)⟩) (rw_Fit hj) rfl rfl rfl hP hD hS hl.1 rfl (Nat.le_of_ble_eq_true rfl) dX1_solve_14 (fun H locs hP hD hS => ?_)
  refine lv_aload_n hx hb dX1_solve_17 rfl (lv_at hl 0 rfl) ?_
  obtain ⟨S_9, hc_7, h⟩ := ob_1s h
  refine km_cVv (As := []) (rest := []) C (kX1_writeRows hEE hj hc_7) (cwV 0 hts gX1_solve_X1_writeRows rfl rfl rfl (by decide +kernel) ⟨(Nat.le_of_ble_eq_true rfl), (Nat.le_of_ble_eq_true rfl)⟩) (rw_Fit hj) rfl rfl rfl hP hD hS hl.1 rfl (Nat.le_of_ble_eq_true rfl) dX1_solve_18 (fun H locs hP hD hS => ?_)
  refine lv_aload_n hx hb dX1_solve_21 rfl (lv_at hl 0 rfl) ?_
  obtain ⟨S_12, hc_10, h⟩ := ob_1s h
  refine km_cVv (As := []) (rest := []) C (kX1_invertRows hEE hj hc_10) (cwV 0 hts gX1_solve_X1_invertRows rfl rfl rfl (by decide +kernel) ⟨(Nat.le_of_ble_eq_true rfl), (Nat.le_of_ble_eq_true rfl)⟩) (rw_Fit hj) rfl rfl rfl hP hD hS hl.1 rfl (Nat.le_of_ble_eq_true rfl) dX1_solve_22 (fun H locs hP hD hS => ?_)
  refine lv_aload_n hx hb dX1_solve_25 rfl (lv_at hl 0 rfl) ?_
  obtain ⟨S_15, hc_13, h⟩ := ob_1s h
  refine km_cVv (As := []) (rest := []) C (kX1_writeTops hEE hj hc_13) (cwV 0 hts gX1_solve_X1_writeTops rfl rfl rfl (by decide +kernel) ⟨(Nat.le_of_ble_eq_true rfl), (Nat.le_of_ble_eq_true rfl)⟩) (rw_Fit hj) rfl rfl rfl hP hD hS hl.1 rfl (Nat.le_of_ble_eq_true rfl) dX1_solve_26 (fun H locs hP hD hS => ?_)
  obtain rfl := ob_v h
  exact km_vret C hP hD hS dX1_solve_29
