def fX1_hasPair (j : Nat) (x1 : Int32) (S : RSt) : Option (Int32 × RSt) := (if x1 < 0 then (some ((0 : Int32), S)) else (if (st_i S (40 + 2 * j)) ≤ x1 then (some ((0 : Int32), S)) else (some ((1 : Int32), S))))
abbrev rmX1_hasPair : Room := { frames := 0, cells := 0, slots := 0, locals := 0 }
theorem nf_X1_hasPair_f59 : Cond.fieldLink RX1 59 "RepeatIndex$Fit" "pairs" "I" ∈ wsX1_hasPair := by decide +kernel
theorem ni_X1_hasPair_X1 : ∀ w ∈ u_ws RX1 TX1 8, w ∈ wsX1_hasPair := by decide +kernel
set_option maxHeartbeats 4000000 in
set_option maxRecDepth 100000 in
theorem kX1_hasPair {l : Launch} {D : va_G} {cy : Nat → ClassId} {ad : Nat → Nat} {E : ke_T} (hEE : km_E E) {j : Nat} (hj : j < 2) {x1 : Int32} {S : RSt} {r : Int32} {S' : RSt} (h : fX1_hasPair j x1 S = some (r, S')) : km_z l D (rw_t cy) (rw_w cy ad) E yX1_hasPair wsX1_hasPair rmX1_hasPair [.ref (ad (13 + j)), .int x1] S r S' := by
  refine km_z_in (cc := cX1_hasPair) (nL := 2) hEE (by decide) rfl (Nat.le_of_ble_eq_true rfl) ?_
  intro p e s m below meth c A H ls C hP hD hS hl
  have C : km_C p s m _ meth c cX1_hasPair 2 RX1 wsX1_hasPair (some .boolean) D (rw_t cy) E A := C
  obtain ⟨⟨hx, hb, hml, hown, hts⟩, hr, hlk, hK, hA, hE, hEE⟩ := id C
  have hl : lv_has ls 2 [(0, .ref (ad (13 + j))), (1, .int x1)] := hl
  unfold fX1_hasPair at h
  refine lv_iload_n hx hb dX1_hasPair_0 rfl (lv_at hl 1 rfl) ?_
  refine lv_if_lt (tgt := 16) hx hb dX1_hasPair_1 (by decide) (fun c_1 => ?_) (fun c_1 => ?_)
  · have h := ob_t c_1 h
    refine lv_iconst (v := 0) hx hb dX1_hasPair_16 (by decide) ?_
    obtain ⟨rfl, rfl⟩ := ob_w h
    exact km_zret C (by decide) hP hD hS dX1_hasPair_17
  · have h := ob_f c_1 h
    refine lv_iload_n hx hb dX1_hasPair_4 rfl (lv_at hl 1 rfl) ?_
    refine lv_aload_n hx hb dX1_hasPair_5 rfl (lv_at hl 0 rfl) ?_
    refine va_get (D := D) (ci := 1) (v := .int (st_i S (40 + 2 * j))) (C := RX1) (T := TX1) (N := 8) hx hb hts ni_X1_hasPair_X1 hown hK hP (13 + j) (rw_Fit hj) rfl 1 (by decide) (hts _ nf_X1_hasPair_f59) (fun _ h9 => h9) rfl dX1_hasPair_6 ?_
    refine lv_icmp_ge (tgt := 16) hx hb dX1_hasPair_9 (by decide) (fun c_2 => ?_) (fun c_2 => ?_)
    · have h := ob_t c_2 h
      refine lv_iconst (v := 0) hx hb dX1_hasPair_16 (by decide) ?_
      obtain ⟨rfl, rfl⟩ := ob_w h
      exact km_zret C (by decide) hP hD hS dX1_hasPair_17
    · have h := ob_f c_2 h
      refine lv_iconst (v := 1) hx hb dX1_hasPair_12 (by decide) ?_
      refine lv_goto (tgt := 17) hx hb dX1_hasPair_13 (by decide) ?_
      obtain ⟨rfl, rfl⟩ := ob_w h
      exact km_zret C (by decide) hP hD hS dX1_hasPair_17
def fX1_countParts_L4 (j : Nat) : Nat → Int32 → Int32 → RSt → Option (Int32 × RSt)
  | 0, _, _, _ => none
  | n + 1, x1, x2, S => (if (st_i S (39 + 2 * j)) ≤ x2 then (some (x1, S)) else (ob_in x2 8 (if (st_a S (26 + j) x2.toNatClampNeg) = x2 then (fX1_countParts_L4 j n (x1 + (1 : Int32)) (x2 + (1 : Int32)) S) else (fX1_countParts_L4 j n x1 (x2 + (1 : Int32)) S))))
def fX1_countParts (j : Nat) (S : RSt) : Option (Int32 × RSt) := (ob_2 (fX1_countParts_L4 j 1000 (0 : Int32) (0 : Int32) S) fun o_6 S_5 => (some (o_6, S_5)))
abbrev rmX1_countParts : Room := { frames := 0, cells := 0, slots := 0, locals := 0 }
theorem nf_X1_countParts_f42 : Cond.fieldLink RX1 42 "RepeatIndex$Fit" "months" "I" ∈ wsX1_countParts := by decide +kernel
theorem ni_X1_countParts_X1 : ∀ w ∈ u_ws RX1 TX1 8, w ∈ wsX1_countParts := by decide +kernel
theorem nf_X1_countParts_f16 : Cond.fieldLink RX1 16 "RepeatIndex$Fit" "parts" "[I" ∈ wsX1_countParts := by decide +kernel
set_option maxHeartbeats 4000000 in
set_option maxRecDepth 100000 in
theorem kX1_countParts_L4 {l : Launch} {D : va_G} {cy : Nat → ClassId} {ad : Nat → Nat} {E : ke_T} {j : Nat} (hj : j < 2) {p : Program} {e : Env} {s : State} {m : MethodId} {args : Array Value} {below : List Frame} {meth : Method} {c : Code} {A : Nat → Prop} {Q : State → Prop} (C : km_C p s m args meth c cX1_countParts 3 RX1 wsX1_countParts (some .int) D (rw_t cy) E A) : ∀ (n : Nat) (x1 : Int32) (x2 : Int32) (S : RSt) (o1 : Int32) (S' : RSt) (h : fX1_countParts_L4 j n x1 x2 S = some (o1, S')) {H : Heap} {locs : List Loc} {ls : Array Slot} (hP : va_P D vwCl ((rw_w cy ad) S) H) (hD : va_D A ((rw_w cy ad) S)) (hS : va_S A s.heap H locs) (hl : lv_has ls 3 [(0, .ref (ad (13 + j))), (1, .int x1), (2, .int x2)]) (kx0 : ∀ (H : Heap) (locs : List Loc) (ls : Array Slot), va_P D vwCl ((rw_w cy ad) S') H → va_D A ((rw_w cy ad) S') → va_S A s.heap H locs → lv_has ls 3 [(1, .int o1)] → W p l e rmX1_countParts s m args below meth c H locs 0 0 Q (F0 m 31 ls [])), W p l e rmX1_countParts s m args below meth c H locs 0 0 Q (F0 m 4 ls []) := by
  obtain ⟨⟨hx, hb, hml, hown, hts⟩, hr, hlk, hK, hA, hE, hEE⟩ := id C
  intro n
  induction n with
  | zero =>
    intro x1 x2 S o1 S' h
    rw [fX1_countParts_L4] at h
    cases h
  | succ n ih =>
    intro x1 x2 S o1 S' h H locs ls hP hD hS hl kx0
    rw [fX1_countParts_L4] at h
    refine lv_iload_n hx hb dX1_countParts_4 rfl (lv_at hl 2 rfl) ?_
    refine lv_aload_n hx hb dX1_countParts_5 rfl (lv_at hl 0 rfl) ?_
    refine va_get (D := D) (ci := 1) (v := .int (st_i S (39 + 2 * j))) (C := RX1) (T := TX1) (N := 8) hx hb hts ni_X1_countParts_X1 hown hK hP (13 + j) (rw_Fit hj) rfl 0 (by decide) (hts _ nf_X1_countParts_f42) (fun _ h9 => h9) rfl dX1_countParts_6 ?_
    refine lv_icmp_ge (tgt := 31) hx hb dX1_countParts_9 (by decide) (fun c_1 => ?_) (fun c_1 => ?_)
    · have h := ob_t c_1 h
      cases h
      exact kx0 _ _ _ hP hD hS (lv_sub hl [1] rfl)
    · have h := ob_f c_1 h
      refine lv_aload_n hx hb dX1_countParts_12 rfl (lv_at hl 0 rfl) ?_
      refine va_get (D := D) (ci := 1) (v := .ref (ad (49 + j))) (C := RX1) (T := TX1) (N := 8) hx hb hts ni_X1_countParts_X1 hown hK hP (13 + j) (rw_Fit hj) rfl 3 (by decide) (hts _ nf_X1_countParts_f16) (fun _ h9 => h9) rfl dX1_countParts_13 ?_
      refine lv_iload_n hx hb dX1_countParts_16 rfl (lv_at hl 2 rfl) ?_
      obtain ⟨hv_2, h⟩ := ob_in_s h
      refine va_iald hx hb hK hP (49 + j) 0 (rw_parts hj) rfl hv_2 dX1_countParts_17 ?_
      refine lv_iload_n hx hb dX1_countParts_18 rfl (lv_at hl 2 rfl) ?_
      refine lv_icmp_ne (tgt := 25) hx hb dX1_countParts_19 (by decide) (fun c_3 => ?_) (fun c_3 => ?_)
      · have h := ob_f c_3 h
        refine lv_iinc (v := x2 + (1 : Int32)) (lv' := [(2, .int (x2 + (1 : Int32))), (0, .ref (ad (13 + j))), (1, .int x1)]) hx hb dX1_countParts_25 hl (k := 2) rfl (congrArg (fun z => x2 + z) (by decide)) (by decide) rfl (fun ls hl => ?_)
        refine lv_goto (tgt := 4) hx hb dX1_countParts_28 (by decide) ?_
        exact ih _ _ _ _ _ h hP hD hS (lv_sub hl [1, 2, 0] rfl) kx0
      · have h := ob_t c_3 h
        refine lv_iinc (v := x1 + (1 : Int32)) (lv' := [(1, .int (x1 + (1 : Int32))), (0, .ref (ad (13 + j))), (2, .int x2)]) hx hb dX1_countParts_22 hl (k := 1) rfl (congrArg (fun z => x1 + z) (by decide)) (by decide) rfl (fun ls hl => ?_)
        refine lv_iinc (v := x2 + (1 : Int32)) (lv' := [(2, .int (x2 + (1 : Int32))), (1, .int (x1 + (1 : Int32))), (0, .ref (ad (13 + j)))]) hx hb dX1_countParts_25 hl (k := 2) rfl (congrArg (fun z => x2 + z) (by decide)) (by decide) rfl (fun ls hl => ?_)
        refine lv_goto (tgt := 4) hx hb dX1_countParts_28 (by decide) ?_
        exact ih _ _ _ _ _ h hP hD hS (lv_sub hl [2, 1, 0] rfl) kx0
set_option maxHeartbeats 4000000 in
set_option maxRecDepth 100000 in
theorem kX1_countParts {l : Launch} {D : va_G} {cy : Nat → ClassId} {ad : Nat → Nat} {E : ke_T} (hEE : km_E E) {j : Nat} (hj : j < 2) {S : RSt} {r : Int32} {S' : RSt} (h : fX1_countParts j S = some (r, S')) : km_i l D (rw_t cy) (rw_w cy ad) E yX1_countParts wsX1_countParts rmX1_countParts [.ref (ad (13 + j))] S r S' := by
  refine km_i_in (cc := cX1_countParts) (nL := 3) hEE (by decide) rfl (Nat.le_of_ble_eq_true rfl) ?_
  intro p e s m below meth c A H ls C hP hD hS hl
  have C : km_C p s m _ meth c cX1_countParts 3 RX1 wsX1_countParts (some .int) D (rw_t cy) E A := C
  obtain ⟨⟨hx, hb, hml, hown, hts⟩, hr, hlk, hK, hA, hE, hEE⟩ := id C
  have hl : lv_has ls 3 [(0, .ref (ad (13 + j)))] := hl
  unfold fX1_countParts at h
  refine lv_iconst (v := 0) hx hb dX1_countParts_0 (by decide) ?_
  refine lv_istore_n (lv' := [(1, .int (0 : Int32)), (0, .ref (ad (13 + j)))]) hx hb dX1_countParts_1 rfl hl (by decide) rfl (fun ls hl => ?_)
  refine lv_iconst (v := 0) hx hb dX1_countParts_2 (by decide) ?_
  refine lv_istore_n (lv' := [(2, .int (0 : Int32)), (1, .int (0 : Int32)), (0, .ref (ad (13 + j)))]) hx hb dX1_countParts_3 rfl hl (by decide) rfl (fun ls hl => ?_)
  obtain ⟨o_6, S_5, hq_4, h⟩ := ob_2s h
  refine kX1_countParts_L4 hj C _ _ _ _ _ _ hq_4 hP hD hS (lv_sub hl [2, 1, 0] rfl) (fun H locs ls hP hD hS hl => ?_)
  refine lv_iload_n hx hb dX1_countParts_31 rfl (lv_at hl 0 rfl) ?_
  obtain ⟨rfl, rfl⟩ := ob_w h
  exact km_iret C hP hD hS dX1_countParts_32
def fX1_offTop (j : Nat) (x1 : Int32) (S : RSt) : Option (Int64 × RSt) := (ob_in x1 42 (ob_in (3 : Int32) 5 (ob_in (2 : Int32) 5 (ob_in (st_a S (28 + 42 * j + x1.toNatClampNeg) (2 : Int32).toNatClampNeg) 8 (ob_in (1 : Int32) 5 (ob_in (st_a S (28 + 42 * j + x1.toNatClampNeg) (1 : Int32).toNatClampNeg) 8 (some ((((st_a S (28 + 42 * j + x1.toNatClampNeg) (3 : Int32).toNatClampNeg).toInt64) * (st_j S j)) - ((st_g S j (st_a S (28 + 42 * j + x1.toNatClampNeg) (2 : Int32).toNatClampNeg).toNatClampNeg) - (st_g S j (st_a S (28 + 42 * j + x1.toNatClampNeg) (1 : Int32).toNatClampNeg).toNatClampNeg)), S))))))))
abbrev rmX1_offTop : Room := { frames := 0, cells := 0, slots := 0, locals := 0 }
theorem nf_X1_offTop_f13 : Cond.fieldLink RX1 13 "RepeatIndex$Fit" "pairRows" "[[I" ∈ wsX1_offTop := by decide +kernel
theorem ni_X1_offTop_X1 : ∀ w ∈ u_ws RX1 TX1 8, w ∈ wsX1_offTop := by decide +kernel
theorem nf_X1_offTop_f24 : Cond.fieldLink RX1 24 "RepeatIndex$Fit" "bottom" "J" ∈ wsX1_offTop := by decide +kernel
theorem nf_X1_offTop_f20 : Cond.fieldLink RX1 20 "RepeatIndex$Fit" "tops" "[J" ∈ wsX1_offTop := by decide +kernel
set_option maxHeartbeats 4000000 in
set_option maxRecDepth 100000 in
theorem kX1_offTop {l : Launch} {D : va_G} {cy : Nat → ClassId} {ad : Nat → Nat} {E : ke_T} (hEE : km_E E) {j : Nat} (hj : j < 2) {x1 : Int32} {S : RSt} {r : Int64} {S' : RSt} (h : fX1_offTop j x1 S = some (r, S')) : km_l l D (rw_t cy) (rw_w cy ad) E yX1_offTop wsX1_offTop rmX1_offTop [.ref (ad (13 + j)), .int x1] S r S' := by
  refine km_l_in (cc := cX1_offTop) (nL := 3) hEE (by decide) rfl (Nat.le_of_ble_eq_true rfl) ?_
  intro p e s m below meth c A H ls C hP hD hS hl
  have C : km_C p s m _ meth c cX1_offTop 3 RX1 wsX1_offTop (some .long) D (rw_t cy) E A := C
  obtain ⟨⟨hx, hb, hml, hown, hts⟩, hr, hlk, hK, hA, hE, hEE⟩ := id C
  have hl : lv_has ls 3 [(0, .ref (ad (13 + j))), (1, .int x1)] := hl
  unfold fX1_offTop at h
  refine lv_aload_n hx hb dX1_offTop_0 rfl (lv_at hl 0 rfl) ?_
  refine va_get (D := D) (ci := 1) (v := .ref (ad (19 + j))) (C := RX1) (T := TX1) (N := 8) hx hb hts ni_X1_offTop_X1 hown hK hP (13 + j) (rw_Fit hj) rfl 2 (by decide) (hts _ nf_X1_offTop_f13) (fun _ h9 => h9) rfl dX1_offTop_1 ?_
  refine lv_iload_n hx hb dX1_offTop_4 rfl (lv_at hl 1 rfl) ?_
  obtain ⟨hv_1, h⟩ := ob_in_s h
  refine va_aldA hx hb hK hP (19 + j) 4 (rw_pairRows hj) rfl hv_1 dX1_offTop_5 ?_
  refine W.eq (g2 := F0 m 6 ls [.ref (ad (51 + 42 * j + x1.toNatClampNeg))]) rfl ?_
  refine lv_astore_n (lv' := [(2, .ref (ad (51 + 42 * j + x1.toNatClampNeg))), (0, .ref (ad (13 + j))), (1, .int x1)]) hx hb dX1_offTop_6 rfl hl (by decide) rfl (fun ls hl => ?_)
  refine lv_aload_n hx hb dX1_offTop_7 rfl (lv_at hl 0 rfl) ?_
  refine lv_iconst (v := 3) hx hb dX1_offTop_8 (by decide) ?_
  obtain ⟨hv_2, h⟩ := ob_in_s h
  refine va_iald hx hb hK hP (51 + 42 * j + x1.toNatClampNeg) 0 (rw_prow hj (vp_lt hv_1)) rfl hv_2 dX1_offTop_9 ?_
  refine lv_i2l hx hb dX1_offTop_10 rfl ?_
  refine lv_aload_n hx hb dX1_offTop_11 rfl (lv_at hl 1 rfl) ?_
  refine va_get (D := D) (ci := 1) (v := .long (st_j S j)) (C := RX1) (T := TX1) (N := 8) hx hb hts ni_X1_offTop_X1 hown hK hP (13 + j) (rw_Fit hj) rfl 5 (by decide) (hts _ nf_X1_offTop_f24) (fun _ h9 => h9) rfl dX1_offTop_12 ?_
  refine lv_lmul hx hb dX1_offTop_15 ?_
  refine lv_aload_n hx hb dX1_offTop_16 rfl (lv_at hl 1 rfl) ?_
  refine va_get (D := D) (ci := 1) (v := .ref (ad (135 + j))) (C := RX1) (T := TX1) (N := 8) hx hb hts ni_X1_offTop_X1 hown hK hP (13 + j) (rw_Fit hj) rfl 4 (by decide) (hts _ nf_X1_offTop_f20) (fun _ h9 => h9) rfl dX1_offTop_17 ?_
  refine lv_aload_n hx hb dX1_offTop_20 rfl (lv_at hl 0 rfl) ?_
  refine lv_iconst (v := 2) hx hb dX1_offTop_21 (by decide) ?_
  obtain ⟨hv_3, h⟩ := ob_in_s h
  refine va_iald hx hb hK hP (51 + 42 * j + x1.toNatClampNeg) 0 (rw_prow hj (vp_lt hv_1)) rfl hv_3 dX1_offTop_22 ?_
  obtain ⟨hv_4, h⟩ := ob_in_s h
  refine va_lald hx hb hK hP (135 + j) 1 (rw_tops hj) rfl hv_4 dX1_offTop_23 ?_
  refine lv_aload_n hx hb dX1_offTop_24 rfl (lv_at hl 1 rfl) ?_
  refine va_get (D := D) (ci := 1) (v := .ref (ad (135 + j))) (C := RX1) (T := TX1) (N := 8) hx hb hts ni_X1_offTop_X1 hown hK hP (13 + j) (rw_Fit hj) rfl 4 (by decide) (hts _ nf_X1_offTop_f20) (fun _ h9 => h9) rfl dX1_offTop_25 ?_
  refine lv_aload_n hx hb dX1_offTop_28 rfl (lv_at hl 0 rfl) ?_
  refine lv_iconst (v := 1) hx hb dX1_offTop_29 (by decide) ?_
  obtain ⟨hv_5, h⟩ := ob_in_s h
  refine va_iald hx hb hK hP (51 + 42 * j + x1.toNatClampNeg) 0 (rw_prow hj (vp_lt hv_1)) rfl hv_5 dX1_offTop_30 ?_
  obtain ⟨hv_6, h⟩ := ob_in_s h
  refine va_lald hx hb hK hP (135 + j) 1 (rw_tops hj) rfl hv_6 dX1_offTop_31 ?_
  refine lv_lsub hx hb dX1_offTop_32 ?_
  refine lv_lsub hx hb dX1_offTop_33 ?_
  obtain ⟨rfl, rfl⟩ := ob_w h
  exact km_lret C hP hD hS dX1_offTop_34
def fX1_errorTop_L4 (j : Nat) : Nat → Int64 → Int32 → RSt → Option (Int64 × RSt)
  | 0, _, _, _ => none
  | n + 1, x1, x3, S => (if (st_i S (40 + 2 * j)) ≤ x3 then (some (x1, S)) else (ob_in x3 42 (ob_in (4 : Int32) 5 (ob_in x3 42 (ob_in (3 : Int32) 5 (ob_2 (fX1_offTop j x3 S) fun r_7 S_8 => (fX1_errorTop_L4 j n (x1 + ((((st_a S (28 + 42 * j + x3.toNatClampNeg) (4 : Int32).toNatClampNeg).toInt64) * ((st_a S (28 + 42 * j + x3.toNatClampNeg) (3 : Int32).toNatClampNeg).toInt64)) * r_7)) (x3 + (1 : Int32)) S_8)))))))
def fX1_errorTop (j : Nat) (S : RSt) : Option (Int64 × RSt) := (ob_2 (fX1_errorTop_L4 j 1000 (0 : Int64) (0 : Int32) S) fun o_11 S_10 => (some (o_11, S_10)))
abbrev rmX1_errorTop : Room := { frames := 1, cells := 0, slots := 0, locals := 22 }
theorem nf_X1_errorTop_f59 : Cond.fieldLink RX1 59 "RepeatIndex$Fit" "pairs" "I" ∈ wsX1_errorTop := by decide +kernel
theorem ni_X1_errorTop_X1 : ∀ w ∈ u_ws RX1 TX1 8, w ∈ wsX1_errorTop := by decide +kernel
theorem nf_X1_errorTop_f13 : Cond.fieldLink RX1 13 "RepeatIndex$Fit" "pairRows" "[[I" ∈ wsX1_errorTop := by decide +kernel
set_option maxHeartbeats 4000000 in
set_option maxRecDepth 100000 in
theorem kX1_errorTop_L4 {l : Launch} {D : va_G} {cy : Nat → ClassId} {ad : Nat → Nat} {E : ke_T} {j : Nat} (hj : j < 2) {p : Program} {e : Env} {s : State} {m : MethodId} {args : Array Value} {below : List Frame} {meth : Method} {c : Code} {A : Nat → Prop} {Q : State → Prop} (C : km_C p s m args meth c cX1_errorTop 4 RX1 wsX1_errorTop (some .long) D (rw_t cy) E A) : ∀ (n : Nat) (x1 : Int64) (x3 : Int32) (S : RSt) (o1 : Int64) (S' : RSt) (h : fX1_errorTop_L4 j n x1 x3 S = some (o1, S')) {H : Heap} {locs : List Loc} {ls : Array Slot} (hP : va_P D vwCl ((rw_w cy ad) S) H) (hD : va_D A ((rw_w cy ad) S)) (hS : va_S A s.heap H locs) (hl : lv_has ls 4 [(0, .ref (ad (13 + j))), (1, .long x1), (3, .int x3)]) (kx0 : ∀ (H : Heap) (locs : List Loc) (ls : Array Slot), va_P D vwCl ((rw_w cy ad) S') H → va_D A ((rw_w cy ad) S') → va_S A s.heap H locs → lv_has ls 4 [(1, .long o1)] → W p l e rmX1_errorTop s m args below meth c H locs 0 0 Q (F0 m 46 ls [])), W p l e rmX1_errorTop s m args below meth c H locs 0 0 Q (F0 m 4 ls []) := by
  obtain ⟨⟨hx, hb, hml, hown, hts⟩, hr, hlk, hK, hA, hE, hEE⟩ := id C
  intro n
  induction n with
  | zero =>
    intro x1 x3 S o1 S' h
    rw [fX1_errorTop_L4] at h
    cases h
  | succ n ih =>
    intro x1 x3 S o1 S' h H locs ls hP hD hS hl kx0
    rw [fX1_errorTop_L4] at h
    refine lv_iload_n hx hb dX1_errorTop_4 rfl (lv_at hl 2 rfl) ?_
    refine lv_aload_n hx hb dX1_errorTop_5 rfl (lv_at hl 0 rfl) ?_
    refine va_get (D := D) (ci := 1) (v := .int (st_i S (40 + 2 * j))) (C := RX1) (T := TX1) (N := 8) hx hb hts ni_X1_errorTop_X1 hown hK hP (13 + j) (rw_Fit hj) rfl 1 (by decide) (hts _ nf_X1_errorTop_f59) (fun _ h9 => h9) rfl dX1_errorTop_6 ?_
    refine lv_icmp_ge (tgt := 46) hx hb dX1_errorTop_9 (by decide) (fun c_1 => ?_) (fun c_1 => ?_)
    · have h := ob_t c_1 h
      cases h
      exact kx0 _ _ _ hP hD hS (lv_sub hl [1] rfl)
    · have h := ob_f c_1 h
      refine lv_lload_n hx hb dX1_errorTop_12 rfl (lv_at hl 1 rfl) ?_
      refine lv_aload_n hx hb dX1_errorTop_13 rfl (lv_at hl 0 rfl) ?_
      refine va_get (D := D) (ci := 1) (v := .ref (ad (19 + j))) (C := RX1) (T := TX1) (N := 8) hx hb hts ni_X1_errorTop_X1 hown hK hP (13 + j) (rw_Fit hj) rfl 2 (by decide) (hts _ nf_X1_errorTop_f13) (fun _ h9 => h9) rfl dX1_errorTop_14 ?_
      refine lv_iload_n hx hb dX1_errorTop_17 rfl (lv_at hl 2 rfl) ?_
      obtain ⟨hv_2, h⟩ := ob_in_s h
      refine va_aldA hx hb hK hP (19 + j) 4 (rw_pairRows hj) rfl hv_2 dX1_errorTop_18 ?_
      refine W.eq (g2 := F0 m 19 ls [.ref (ad (51 + 42 * j + x3.toNatClampNeg)), .long x1]) rfl ?_
      refine lv_iconst (v := 4) hx hb dX1_errorTop_19 (by decide) ?_
      obtain ⟨hv_3, h⟩ := ob_in_s h
      refine va_iald hx hb hK hP (51 + 42 * j + x3.toNatClampNeg) 0 (rw_prow hj (vp_lt hv_2)) rfl hv_3 dX1_errorTop_20 ?_
      refine lv_i2l hx hb dX1_errorTop_21 rfl ?_
      refine lv_aload_n hx hb dX1_errorTop_22 rfl (lv_at hl 0 rfl) ?_
      refine va_get (D := D) (ci := 1) (v := .ref (ad (19 + j))) (C := RX1) (T := TX1) (N := 8) hx hb hts ni_X1_errorTop_X1 hown hK hP (13 + j) (rw_Fit hj) rfl 2 (by decide) (hts _ nf_X1_errorTop_f13) (fun _ h9 => h9) rfl dX1_errorTop_23 ?_
      refine lv_iload_n hx hb dX1_errorTop_26 rfl (lv_at hl 2 rfl) ?_
      obtain ⟨hv_4, h⟩ := ob_in_s h
      refine va_aldA hx hb hK hP (19 + j) 4 (rw_pairRows hj) rfl hv_4 dX1_errorTop_27 ?_
      refine W.eq (g2 := F0 m 28 ls [.ref (ad (51 + 42 * j + x3.toNatClampNeg)), .long ((st_a S (28 + 42 * j + x3.toNatClampNeg) (4 : Int32).toNatClampNeg).toInt64), .long x1]) rfl ?_
      refine lv_iconst (v := 3) hx hb dX1_errorTop_28 (by decide) ?_
      obtain ⟨hv_5, h⟩ := ob_in_s h
      refine va_iald hx hb hK hP (51 + 42 * j + x3.toNatClampNeg) 0 (rw_prow hj (vp_lt hv_4)) rfl hv_5 dX1_errorTop_29 ?_
      refine lv_i2l hx hb dX1_errorTop_30 rfl ?_
      refine lv_lmul hx hb dX1_errorTop_31 ?_
      refine lv_aload_n hx hb dX1_errorTop_32 rfl (lv_at hl 0 rfl) ?_
      refine lv_iload_n hx hb dX1_errorTop_33 rfl (lv_at hl 2 rfl) ?_
      obtain ⟨r_7, S_8, hc_6, h⟩ := ob_2s h
      refine km_cVl (As := [.int x3]) (rest := [.long (((st_a S (28 + 42 * j + x3.toNatClampNeg) (4 : Int32).toNatClampNeg).toInt64) * ((st_a S (28 + 42 * j + x3.toNatClampNeg) (3 : Int32).toNatClampNeg).toInt64)), .long x1]) C (kX1_offTop hEE hj hc_6) (cwV 1 hts gX1_errorTop_X1_offTop rfl rfl rfl (by decide +kernel) ⟨(Nat.le_of_ble_eq_true rfl), (Nat.le_of_ble_eq_true rfl)⟩) (rw_Fit hj) rfl rfl rfl hP hD hS hl.1 rfl (Nat.le_of_ble_eq_true rfl) dX1_errorTop_34 (fun H locs hP hD hS => ?_)
      refine lv_lmul hx hb dX1_errorTop_37 ?_
      refine lv_ladd hx hb dX1_errorTop_38 ?_
      refine lv_lstore_n (lv' := [(1, .long (x1 + ((((st_a S (28 + 42 * j + x3.toNatClampNeg) (4 : Int32).toNatClampNeg).toInt64) * ((st_a S (28 + 42 * j + x3.toNatClampNeg) (3 : Int32).toNatClampNeg).toInt64)) * r_7))), (0, .ref (ad (13 + j))), (3, .int x3)]) hx hb dX1_errorTop_39 rfl hl (by decide) rfl (fun ls hl => ?_)
      refine lv_iinc (v := x3 + (1 : Int32)) (lv' := [(3, .int (x3 + (1 : Int32))), (1, .long (x1 + ((((st_a S (28 + 42 * j + x3.toNatClampNeg) (4 : Int32).toNatClampNeg).toInt64) * ((st_a S (28 + 42 * j + x3.toNatClampNeg) (3 : Int32).toNatClampNeg).toInt64)) * r_7))), (0, .ref (ad (13 + j)))]) hx hb dX1_errorTop_40 hl (k := 2) rfl (congrArg (fun z => x3 + z) (by decide)) (by decide) rfl (fun ls hl => ?_)
      refine lv_goto (tgt := 4) hx hb dX1_errorTop_43 (by decide) ?_
      exact ih _ _ _ _ _ h hP hD hS (lv_sub hl [2, 1, 0] rfl) kx0
set_option maxHeartbeats 4000000 in
set_option maxRecDepth 100000 in
theorem kX1_errorTop {l : Launch} {D : va_G} {cy : Nat → ClassId} {ad : Nat → Nat} {E : ke_T} (hEE : km_E E) {j : Nat} (hj : j < 2) {S : RSt} {r : Int64} {S' : RSt} (h : fX1_errorTop j S = some (r, S')) : km_l l D (rw_t cy) (rw_w cy ad) E yX1_errorTop wsX1_errorTop rmX1_errorTop [.ref (ad (13 + j))] S r S' := by
  refine km_l_in (cc := cX1_errorTop) (nL := 4) hEE (by decide) rfl (Nat.le_of_ble_eq_true rfl) ?_
  intro p e s m below meth c A H ls C hP hD hS hl
  have C : km_C p s m _ meth c cX1_errorTop 4 RX1 wsX1_errorTop (some .long) D (rw_t cy) E A := C
  obtain ⟨⟨hx, hb, hml, hown, hts⟩, hr, hlk, hK, hA, hE, hEE⟩ := id C
  have hl : lv_has ls 4 [(0, .ref (ad (13 + j)))] := hl
  unfold fX1_errorTop at h
  refine lv_lconst (v := 0) hx hb dX1_errorTop_0 (by decide) ?_
  refine lv_lstore_n (lv' := [(1, .long (0 : Int64)), (0, .ref (ad (13 + j)))]) hx hb dX1_errorTop_1 rfl hl (by decide) rfl (fun ls hl => ?_)
  refine lv_iconst (v := 0) hx hb dX1_errorTop_2 (by decide) ?_
  refine lv_istore_n (lv' := [(3, .int (0 : Int32)), (1, .long (0 : Int64)), (0, .ref (ad (13 + j)))]) hx hb dX1_errorTop_3 rfl hl (by decide) rfl (fun ls hl => ?_)
  obtain ⟨o_11, S_10, hq_9, h⟩ := ob_2s h
  refine kX1_errorTop_L4 hj C _ _ _ _ _ _ hq_9 hP hD hS (lv_sub hl [2, 1, 0] rfl) (fun H locs ls hP hD hS hl => ?_)
  refine lv_lload_n hx hb dX1_errorTop_46 rfl (lv_at hl 0 rfl) ?_
  obtain ⟨rfl, rfl⟩ := ob_w h
  exact km_lret C hP hD hS dX1_errorTop_47
def fX1_findWorst_L9 (j : Nat) : Nat → Int32 → Int64 → Int32 → RSt → Option (Int32 × RSt)
  | 0, _, _, _, _ => none
  | n + 1, x1, x2, x4, S => (if (st_i S (40 + 2 * j)) ≤ x4 then (some (x1, S)) else (ob_2 (fX1_offTop j x4 S) fun r_3 S_4 => (if (lg_cmp (if 0 < r_3 then r_3 else -r_3) x2) ≤ 0 then (fX1_findWorst_L9 j n x1 x2 (x4 + (1 : Int32)) S_4) else (fX1_findWorst_L9 j n x4 (if 0 < r_3 then r_3 else -r_3) (x4 + (1 : Int32)) S_4))))
def fX1_findWorst (j : Nat) (S : RSt) : Option (Int32 × RSt) := (ob_2 (fX1_findWorst_L9 j 1000 (-1 : Int32) (-1 : Int64) (0 : Int32) S) fun o_8 S_7 => (some (o_8, S_7)))
abbrev rmX1_findWorst : Room := { frames := 1, cells := 0, slots := 0, locals := 29 }
theorem nf_X1_findWorst_c70 : Cond.constantLong RX1 70 (-1) ∈ wsX1_findWorst := by decide +kernel
theorem nf_X1_findWorst_f59 : Cond.fieldLink RX1 59 "RepeatIndex$Fit" "pairs" "I" ∈ wsX1_findWorst := by decide +kernel
theorem ni_X1_findWorst_X1 : ∀ w ∈ u_ws RX1 TX1 8, w ∈ wsX1_findWorst := by decide +kernel
theorem nf_X1_findWorst_m72 : Cond.methodLink RX1 72 Lib.MathLoose.abs_long.x ∈ wsX1_findWorst := by decide +kernel
theorem nf_X1_findWorst_sabs : Cond.static Lib.MathLoose.abs_long.x ∈ wsX1_findWorst := by decide +kernel
theorem nf_X1_findWorst_iMath : Cond.initialized "java/lang/Math" ∈ wsX1_findWorst := by decide +kernel
theorem nf_X1_findWorst_cabs : Cond.code Lib.MathLoose.abs_long.x Lib.MathLoose.abs_long.code 2 (some .long) ∈ wsX1_findWorst := List.mem_of_getElem? (i := 6) rfl
set_option maxHeartbeats 4000000 in
set_option maxRecDepth 100000 in
theorem kX1_findWorst_L9 {l : Launch} {D : va_G} {cy : Nat → ClassId} {ad : Nat → Nat} {E : ke_T} {j : Nat} (hj : j < 2) {p : Program} {e : Env} {s : State} {m : MethodId} {args : Array Value} {below : List Frame} {meth : Method} {c : Code} {A : Nat → Prop} {Q : State → Prop} (C : km_C p s m args meth c cX1_findWorst 7 RX1 wsX1_findWorst (some .int) D (rw_t cy) E A) : ∀ (n : Nat) (x1 : Int32) (x2 : Int64) (x4 : Int32) (S : RSt) (o1 : Int32) (S' : RSt) (h : fX1_findWorst_L9 j n x1 x2 x4 S = some (o1, S')) {H : Heap} {locs : List Loc} {ls : Array Slot} (hP : va_P D vwCl ((rw_w cy ad) S) H) (hD : va_D A ((rw_w cy ad) S)) (hS : va_S A s.heap H locs) (hl : lv_has ls 7 [(0, .ref (ad (13 + j))), (1, .int x1), (2, .long x2), (4, .int x4)]) (kx0 : ∀ (H : Heap) (locs : List Loc) (ls : Array Slot), va_P D vwCl ((rw_w cy ad) S') H → va_D A ((rw_w cy ad) S') → va_S A s.heap H locs → lv_has ls 7 [(1, .int o1)] → W p l e rmX1_findWorst s m args below meth c H locs 0 0 Q (F0 m 48 ls [])), W p l e rmX1_findWorst s m args below meth c H locs 0 0 Q (F0 m 9 ls []) := by
  obtain ⟨⟨hx, hb, hml, hown, hts⟩, hr, hlk, hK, hA, hE, hEE⟩ := id C
  intro n
  induction n with
  | zero =>
    intro x1 x2 x4 S o1 S' h
    rw [fX1_findWorst_L9] at h
    cases h
  | succ n ih =>
    intro x1 x2 x4 S o1 S' h H locs ls hP hD hS hl kx0
    rw [fX1_findWorst_L9] at h
    refine lv_iload hx hb dX1_findWorst_9 (lv_at hl 3 rfl) ?_
    refine lv_aload_n hx hb dX1_findWorst_11 rfl (lv_at hl 0 rfl) ?_
    refine va_get (D := D) (ci := 1) (v := .int (st_i S (40 + 2 * j))) (C := RX1) (T := TX1) (N := 8) hx hb hts ni_X1_findWorst_X1 hown hK hP (13 + j) (rw_Fit hj) rfl 1 (by decide) (hts _ nf_X1_findWorst_f59) (fun _ h9 => h9) rfl dX1_findWorst_12 ?_
    refine lv_icmp_ge (tgt := 48) hx hb dX1_findWorst_15 (by decide) (fun c_1 => ?_) (fun c_1 => ?_)
    · have h := ob_t c_1 h
      cases h
      exact kx0 _ _ _ hP hD hS (lv_sub hl [1] rfl)
    · have h := ob_f c_1 h
      refine lv_aload_n hx hb dX1_findWorst_18 rfl (lv_at hl 0 rfl) ?_
      refine lv_iload hx hb dX1_findWorst_19 (lv_at hl 3 rfl) ?_
      obtain ⟨r_3, S_4, hc_2, h⟩ := ob_2s h
      refine km_cVl (As := [.int x4]) (rest := []) C (kX1_offTop hEE hj hc_2) (cwV 1 hts gX1_findWorst_X1_offTop rfl rfl rfl (by decide +kernel) ⟨(Nat.le_of_ble_eq_true rfl), (Nat.le_of_ble_eq_true rfl)⟩) (rw_Fit hj) rfl rfl rfl hP hD hS hl.1 rfl (Nat.le_of_ble_eq_true rfl) dX1_findWorst_21 (fun H locs hP hD hS => ?_)
      refine va_mabs_long hx hb (by rw [hml]; exact hl.1.symm) hown (hts _ nf_X1_findWorst_m72) (hts _ nf_X1_findWorst_sabs) (hts _ nf_X1_findWorst_iMath) (hts _ nf_X1_findWorst_cabs) (Nat.le_of_ble_eq_true rfl) (Nat.le_of_ble_eq_true rfl) (Nat.zero_le _) (Nat.zero_le _) dX1_findWorst_24 ?_
      refine lv_lstore (lv' := [(5, .long (if 0 < r_3 then r_3 else -r_3)), (0, .ref (ad (13 + j))), (1, .int x1), (2, .long x2), (4, .int x4)]) hx hb dX1_findWorst_27 hl (by decide) rfl (fun ls hl => ?_)
      refine lv_lload hx hb dX1_findWorst_29 (lv_at hl 0 rfl) ?_
      refine lv_lload_n hx hb dX1_findWorst_31 rfl (lv_at hl 3 rfl) ?_
      refine W.lcmp hx hb dX1_findWorst_32 ?_
      refine lv_if_le (tgt := 42) hx hb dX1_findWorst_33 (by decide) (fun c_5 => ?_) (fun c_5 => ?_)
      · have h := ob_t c_5 h
        refine lv_iinc (v := x4 + (1 : Int32)) (lv' := [(4, .int (x4 + (1 : Int32))), (5, .long (if 0 < r_3 then r_3 else -r_3)), (0, .ref (ad (13 + j))), (1, .int x1), (2, .long x2)]) hx hb dX1_findWorst_42 hl (k := 4) rfl (congrArg (fun z => x4 + z) (by decide)) (by decide) rfl (fun ls hl => ?_)
        refine lv_goto (tgt := 9) hx hb dX1_findWorst_45 (by decide) ?_
        exact ih _ _ _ _ _ _ h hP hD hS (lv_sub hl [2, 3, 4, 0] rfl) kx0
      · have h := ob_f c_5 h
        refine lv_lload hx hb dX1_findWorst_36 (lv_at hl 0 rfl) ?_
        refine lv_lstore_n (lv' := [(2, .long (if 0 < r_3 then r_3 else -r_3)), (5, .long (if 0 < r_3 then r_3 else -r_3)), (0, .ref (ad (13 + j))), (1, .int x1), (4, .int x4)]) hx hb dX1_findWorst_38 rfl hl (by decide) rfl (fun ls hl => ?_)
        refine lv_iload hx hb dX1_findWorst_39 (lv_at hl 4 rfl) ?_
        refine lv_istore_n (lv' := [(1, .int x4), (2, .long (if 0 < r_3 then r_3 else -r_3)), (5, .long (if 0 < r_3 then r_3 else -r_3)), (0, .ref (ad (13 + j))), (4, .int x4)]) hx hb dX1_findWorst_41 rfl hl (by decide) rfl (fun ls hl => ?_)
        refine lv_iinc (v := x4 + (1 : Int32)) (lv' := [(4, .int (x4 + (1 : Int32))), (1, .int x4), (2, .long (if 0 < r_3 then r_3 else -r_3)), (5, .long (if 0 < r_3 then r_3 else -r_3)), (0, .ref (ad (13 + j)))]) hx hb dX1_findWorst_42 hl (k := 4) rfl (congrArg (fun z => x4 + z) (by decide)) (by decide) rfl (fun ls hl => ?_)
        refine lv_goto (tgt := 9) hx hb dX1_findWorst_45 (by decide) ?_
        exact ih _ _ _ _ _ _ h hP hD hS (lv_sub hl [4, 1, 2, 0] rfl) kx0
set_option maxHeartbeats 4000000 in
set_option maxRecDepth 100000 in
theorem kX1_findWorst {l : Launch} {D : va_G} {cy : Nat → ClassId} {ad : Nat → Nat} {E : ke_T} (hEE : km_E E) {j : Nat} (hj : j < 2) {S : RSt} {r : Int32} {S' : RSt} (h : fX1_findWorst j S = some (r, S')) : km_i l D (rw_t cy) (rw_w cy ad) E yX1_findWorst wsX1_findWorst rmX1_findWorst [.ref (ad (13 + j))] S r S' := by
  refine km_i_in (cc := cX1_findWorst) (nL := 7) hEE (by decide) rfl (Nat.le_of_ble_eq_true rfl) ?_
  intro p e s m below meth c A H ls C hP hD hS hl
  have C : km_C p s m _ meth c cX1_findWorst 7 RX1 wsX1_findWorst (some .int) D (rw_t cy) E A := C
  obtain ⟨⟨hx, hb, hml, hown, hts⟩, hr, hlk, hK, hA, hE, hEE⟩ := id C
  have hl : lv_has ls 7 [(0, .ref (ad (13 + j)))] := hl
  unfold fX1_findWorst at h
  refine lv_iconst (v := -1) hx hb dX1_findWorst_0 (by decide) ?_
  refine lv_istore_n (lv' := [(1, .int (-1 : Int32)), (0, .ref (ad (13 + j)))]) hx hb dX1_findWorst_1 rfl hl (by decide) rfl (fun ls hl => ?_)
  refine lv_ldc2 (v := -1) hx hb hown (hts _ nf_X1_findWorst_c70) dX1_findWorst_2 ?_
  refine lv_lstore_n (lv' := [(2, .long (-1 : Int64)), (1, .int (-1 : Int32)), (0, .ref (ad (13 + j)))]) hx hb dX1_findWorst_5 rfl hl (by decide) rfl (fun ls hl => ?_)
  refine lv_iconst (v := 0) hx hb dX1_findWorst_6 (by decide) ?_
  refine lv_istore (lv' := [(4, .int (0 : Int32)), (2, .long (-1 : Int64)), (1, .int (-1 : Int32)), (0, .ref (ad (13 + j)))]) hx hb dX1_findWorst_7 hl (by decide) rfl (fun ls hl => ?_)
  obtain ⟨o_8, S_7, hq_6, h⟩ := ob_2s h
  refine kX1_findWorst_L9 hj C _ _ _ _ _ _ _ hq_6 hP hD hS (lv_sub hl [3, 2, 1, 0] rfl) (fun H locs ls hP hD hS hl => ?_)
  refine lv_iload_n hx hb dX1_findWorst_48 rfl (lv_at hl 0 rfl) ?_
  obtain ⟨rfl, rfl⟩ := ob_w h
  exact km_iret C hP hD hS dX1_findWorst_49
def fX1_addPair (j : Nat) (u : Nat) (x2 : Int32) (x3 : Int32) (x4 : Int32) (S : RSt) : Option (RSt) := (if (st_i S (40 + 2 * j)) < (42 : Int32) then (ob_in (st_i S (40 + 2 * j)) 42 (ob_in (0 : Int32) 5 (ob_in (1 : Int32) 5 (ob_in (2 : Int32) 5 (ob_2 (fX0_levelAt u x2 x4 (st_sa (st_sa (st_sa S (28 + 42 * j + ((st_i S (40 + 2 * j)).toNatClampNeg)) (0 : Int32).toNatClampNeg x2) (28 + 42 * j + ((st_i S (40 + 2 * j)).toNatClampNeg)) (1 : Int32).toNatClampNeg x3) (28 + 42 * j + ((st_i S (40 + 2 * j)).toNatClampNeg)) (2 : Int32).toNatClampNeg x4)) fun r_7 S_8 => (ob_2 (fX0_levelAt u x2 x3 S_8) fun r_10 S_11 => (ob_in (3 : Int32) 5 (ob_2 (fX0_weightOf u (x4 - x3) (st_sa S_11 (28 + 42 * j + ((st_i S (40 + 2 * j)).toNatClampNeg)) (3 : Int32).toNatClampNeg (r_7 - r_10))) fun r_14 S_15 => (ob_in (4 : Int32) 5 (some (st_si (st_sa S_15 (28 + 42 * j + ((st_i S (40 + 2 * j)).toNatClampNeg)) (4 : Int32).toNatClampNeg r_14) (40 + 2 * j) ((st_i (st_sa S_15 (28 + 42 * j + ((st_i S (40 + 2 * j)).toNatClampNeg)) (4 : Int32).toNatClampNeg r_14) (40 + 2 * j)) + (1 : Int32))))))))))))) else (some S))
abbrev rmX1_addPair : Room := { frames := 2, cells := 0, slots := 0, locals := 43 }
theorem nf_X1_addPair_f59 : Cond.fieldLink RX1 59 "RepeatIndex$Fit" "pairs" "I" ∈ wsX1_addPair := by decide +kernel
theorem ni_X1_addPair_X1 : ∀ w ∈ u_ws RX1 TX1 8, w ∈ wsX1_addPair := by decide +kernel
theorem nf_X1_addPair_f13 : Cond.fieldLink RX1 13 "RepeatIndex$Fit" "pairRows" "[[I" ∈ wsX1_addPair := by decide +kernel
set_option maxHeartbeats 4000000 in
set_option maxRecDepth 100000 in
theorem kX1_addPair {l : Launch} {D : va_G} {cy : Nat → ClassId} {ad : Nat → Nat} {E : ke_T} (hEE : km_E E) {j : Nat} (hj : j < 2) {u : Nat} (hu : u < 13) {x2 : Int32} {x3 : Int32} {x4 : Int32} {S : RSt} {S' : RSt} (h : fX1_addPair j u x2 x3 x4 S = some S') : km_v l D (rw_t cy) (rw_w cy ad) E yX1_addPair wsX1_addPair rmX1_addPair [.ref (ad (13 + j)), .ref (ad u), .int x2, .int x3, .int x4] S S' := by
  refine km_v_in (cc := cX1_addPair) (nL := 6) hEE (by decide) rfl (Nat.le_of_ble_eq_true rfl) ?_
  intro p e s m below meth c A H ls C hP hD hS hl
  have C : km_C p s m _ meth c cX1_addPair 6 RX1 wsX1_addPair none D (rw_t cy) E A := C
  obtain ⟨⟨hx, hb, hml, hown, hts⟩, hr, hlk, hK, hA, hE, hEE⟩ := id C
  have hl : lv_has ls 6 [(0, .ref (ad (13 + j))), (1, .ref (ad u)), (2, .int x2), (3, .int x3), (4, .int x4)] := hl
  unfold fX1_addPair at h
  refine lv_aload_n hx hb dX1_addPair_0 rfl (lv_at hl 0 rfl) ?_
  refine va_get (D := D) (ci := 1) (v := .int (st_i S (40 + 2 * j))) (C := RX1) (T := TX1) (N := 8) hx hb hts ni_X1_addPair_X1 hown hK hP (13 + j) (rw_Fit hj) rfl 1 (by decide) (hts _ nf_X1_addPair_f59) (fun _ h9 => h9) rfl dX1_addPair_1 ?_
  refine lv_bipush (v := 42) hx hb dX1_addPair_4 (by decide) ?_
  refine lv_icmp_lt (tgt := 10) hx hb dX1_addPair_6 (by decide) (fun c_1 => ?_) (fun c_1 => ?_)
  · have h := ob_t c_1 h
    refine lv_aload_n hx hb dX1_addPair_10 rfl (lv_at hl 0 rfl) ?_
    refine va_get (D := D) (ci := 1) (v := .ref (ad (19 + j))) (C := RX1) (T := TX1) (N := 8) hx hb hts ni_X1_addPair_X1 hown hK hP (13 + j) (rw_Fit hj) rfl 2 (by decide) (hts _ nf_X1_addPair_f13) (fun _ h9 => h9) rfl dX1_addPair_11 ?_
    refine lv_aload_n hx hb dX1_addPair_14 rfl (lv_at hl 0 rfl) ?_
    refine va_get (D := D) (ci := 1) (v := .int (st_i S (40 + 2 * j))) (C := RX1) (T := TX1) (N := 8) hx hb hts ni_X1_addPair_X1 hown hK hP (13 + j) (rw_Fit hj) rfl 1 (by decide) (hts _ nf_X1_addPair_f59) (fun _ h9 => h9) rfl dX1_addPair_15 ?_
    obtain ⟨hv_2, h⟩ := ob_in_s h
    refine va_aldA hx hb hK hP (19 + j) 4 (rw_pairRows hj) rfl hv_2 dX1_addPair_18 ?_
    refine W.eq (g2 := F0 m 19 ls [.ref (ad (51 + 42 * j + ((st_i S (40 + 2 * j)).toNatClampNeg)))]) rfl ?_
    refine lv_astore (lv' := [(5, .ref (ad (51 + 42 * j + ((st_i S (40 + 2 * j)).toNatClampNeg)))), (0, .ref (ad (13 + j))), (1, .ref (ad u)), (2, .int x2), (3, .int x3), (4, .int x4)]) hx hb dX1_addPair_19 hl (by decide) rfl (fun ls hl => ?_)
    refine lv_aload hx hb dX1_addPair_21 (lv_at hl 0 rfl) ?_
    refine lv_iconst (v := 0) hx hb dX1_addPair_23 (by decide) ?_
    refine lv_iload_n hx hb dX1_addPair_24 rfl (lv_at hl 3 rfl) ?_
    obtain ⟨hv_3, h⟩ := ob_in_s h
    refine va_iast hx hb hK hP hD hS (51 + 42 * j + ((st_i S (40 + 2 * j)).toNatClampNeg)) 0 (rw_prow hj (vp_lt hv_2)) rfl hv_3 dX1_addPair_25 (fun H locs hP hD hS => ?_)
    have hP := st_ps (rw_s_prow hj (vp_lt hv_2)) hP
    have hD := st_ds (rw_s_prow hj (vp_lt hv_2)) hD
    refine lv_aload hx hb dX1_addPair_26 (lv_at hl 0 rfl) ?_
    refine lv_iconst (v := 1) hx hb dX1_addPair_28 (by decide) ?_
    refine lv_iload_n hx hb dX1_addPair_29 rfl (lv_at hl 4 rfl) ?_
    obtain ⟨hv_4, h⟩ := ob_in_s h
    refine va_iast hx hb hK hP hD hS (51 + 42 * j + ((st_i S (40 + 2 * j)).toNatClampNeg)) 0 (rw_prow hj (vp_lt hv_2)) rfl hv_4 dX1_addPair_30 (fun H locs hP hD hS => ?_)
    have hP := st_ps (rw_s_prow hj (vp_lt hv_2)) hP
    have hD := st_ds (rw_s_prow hj (vp_lt hv_2)) hD
    refine lv_aload hx hb dX1_addPair_31 (lv_at hl 0 rfl) ?_
    refine lv_iconst (v := 2) hx hb dX1_addPair_33 (by decide) ?_
    refine lv_iload hx hb dX1_addPair_34 (lv_at hl 5 rfl) ?_
    obtain ⟨hv_5, h⟩ := ob_in_s h
    refine va_iast hx hb hK hP hD hS (51 + 42 * j + ((st_i S (40 + 2 * j)).toNatClampNeg)) 0 (rw_prow hj (vp_lt hv_2)) rfl hv_5 dX1_addPair_36 (fun H locs hP hD hS => ?_)
    have hP := st_ps (rw_s_prow hj (vp_lt hv_2)) hP
    have hD := st_ds (rw_s_prow hj (vp_lt hv_2)) hD
    refine lv_aload hx hb dX1_addPair_37 (lv_at hl 0 rfl) ?_
    refine lv_iconst (v := 3) hx hb dX1_addPair_39 (by decide) ?_
    refine lv_aload_n hx hb dX1_addPair_40 rfl (lv_at hl 2 rfl) ?_
    refine lv_iload_n hx hb dX1_addPair_41 rfl (lv_at hl 3 rfl) ?_
    refine lv_iload hx hb dX1_addPair_42 (lv_at hl 5 rfl) ?_
    obtain ⟨r_7, S_8, hc_6, h⟩ := ob_2s h
    refine km_cVi (As := [.int x2, .int x4]) (rest := [.int (3 : Int32), .ref (ad (51 + 42 * j + ((st_i S (40 + 2 * j)).toNatClampNeg)))]) C (kX0_levelAt hEE hu hc_6) (cwV 2 hts gX1_addPair_X0_levelAt rfl rfl rfl (by decide +kernel) ⟨(Nat.le_of_ble_eq_true rfl), (Nat.le_of_ble_eq_true rfl)⟩) (rw_Book hu) rfl rfl rfl hP hD hS hl.1 rfl (Nat.le_of_ble_eq_true rfl) dX1_addPair_44 (fun H locs hP hD hS => ?_)
    refine lv_aload_n hx hb dX1_addPair_47 rfl (lv_at hl 2 rfl) ?_
    refine lv_iload_n hx hb dX1_addPair_48 rfl (lv_at hl 3 rfl) ?_
    refine lv_iload_n hx hb dX1_addPair_49 rfl (lv_at hl 4 rfl) ?_
    obtain ⟨r_10, S_11, hc_9, h⟩ := ob_2s h
    refine km_cVi (As := [.int x2, .int x3]) (rest := [.int r_7, .int (3 : Int32), .ref (ad (51 + 42 * j + ((st_i S (40 + 2 * j)).toNatClampNeg)))]) C (kX0_levelAt hEE hu hc_9) (cwV 2 hts gX1_addPair_X0_levelAt rfl rfl rfl (by decide +kernel) ⟨(Nat.le_of_ble_eq_true rfl), (Nat.le_of_ble_eq_true rfl)⟩) (rw_Book hu) rfl rfl rfl hP hD hS hl.1 rfl (Nat.le_of_ble_eq_true rfl) dX1_addPair_50 (fun H locs hP hD hS => ?_)
    refine lv_isub hx hb dX1_addPair_53 ?_
    obtain ⟨hv_12, h⟩ := ob_in_s h
    refine va_iast hx hb hK hP hD hS (51 + 42 * j + ((st_i S (40 + 2 * j)).toNatClampNeg)) 0 (rw_prow hj (vp_lt hv_2)) rfl hv_12 dX1_addPair_54 (fun H locs hP hD hS => ?_)
    have hP := st_ps (rw_s_prow hj (vp_lt hv_2)) hP
    have hD := st_ds (rw_s_prow hj (vp_lt hv_2)) hD
    refine lv_aload hx hb dX1_addPair_55 (lv_at hl 0 rfl) ?_
    refine lv_iconst (v := 4) hx hb dX1_addPair_57 (by decide) ?_
    refine lv_aload_n hx hb dX1_addPair_58 rfl (lv_at hl 2 rfl) ?_
    refine lv_iload hx hb dX1_addPair_59 (lv_at hl 5 rfl) ?_
    refine lv_iload_n hx hb dX1_addPair_61 rfl (lv_at hl 4 rfl) ?_
    refine lv_isub hx hb dX1_addPair_62 ?_
    obtain ⟨r_14, S_15, hc_13, h⟩ := ob_2s h
    refine km_cVi (As := [.int (x4 - x3)]) (rest := [.int (4 : Int32), .ref (ad (51 + 42 * j + ((st_i S (40 + 2 * j)).toNatClampNeg)))]) C (kX0_weightOf hEE hu hc_13) (cwV 1 hts gX1_addPair_X0_weightOf rfl rfl rfl (by decide +kernel) ⟨(Nat.le_of_ble_eq_true rfl), (Nat.le_of_ble_eq_true rfl)⟩) (rw_Book hu) rfl rfl rfl hP hD hS hl.1 rfl (Nat.le_of_ble_eq_true rfl) dX1_addPair_63 (fun H locs hP hD hS => ?_)
    obtain ⟨hv_16, h⟩ := ob_in_s h
    refine va_iast hx hb hK hP hD hS (51 + 42 * j + ((st_i S (40 + 2 * j)).toNatClampNeg)) 0 (rw_prow hj (vp_lt hv_2)) rfl hv_16 dX1_addPair_66 (fun H locs hP hD hS => ?_)
    have hP := st_ps (rw_s_prow hj (vp_lt hv_2)) hP
    have hD := st_ds (rw_s_prow hj (vp_lt hv_2)) hD
    refine lv_aload_n hx hb dX1_addPair_67 rfl (lv_at hl 1 rfl) ?_
    refine lv_dup hx hb dX1_addPair_68 rfl ?_
    refine va_get (D := D) (ci := 1) (v := .int (st_i (st_sa S_15 (28 + 42 * j + ((st_i S (40 + 2 * j)).toNatClampNeg)) (4 : Int32).toNatClampNeg r_14) (40 + 2 * j))) (C := RX1) (T := TX1) (N := 8) hx hb hts ni_X1_addPair_X1 hown hK hP (13 + j) (rw_Fit hj) rfl 1 (by decide) (hts _ nf_X1_addPair_f59) (fun _ h9 => h9) rfl dX1_addPair_69 ?_
    refine lv_iconst (v := 1) hx hb dX1_addPair_72 (by decide) ?_
    refine lv_iadd hx hb dX1_addPair_73 ?_
    refine va_put (D := D) (ci := 1) (v := .int ((st_i (st_sa S_15 (28 + 42 * j + ((st_i S (40 + 2 * j)).toNatClampNeg)) (4 : Int32).toNatClampNeg r_14) (40 + 2 * j)) + (1 : Int32))) (ty := .int) (C := RX1) (T := TX1) (N := 8) hx hb hts ni_X1_addPair_X1 tyX1 tyX1_ok nmX1 hown hK hP hD hS (13 + j) (rw_Fit hj) rfl 1 (by decide) (hts _ nf_X1_addPair_f59) (fun _ h9 => h9) rfl (by decide +kernel) rfl rfl (Nat.le_of_ble_eq_true rfl) dX1_addPair_74 (fun H locs hP hD hS => ?_)
    have hP := st_ps (rw_s_Fit_pairs hj) hP
    have hD := st_ds (rw_s_Fit_pairs hj) hD
    obtain rfl := ob_v h
    exact km_vret C hP hD hS dX1_addPair_77
  · have h := ob_f c_1 h
    obtain rfl := ob_v h
    exact km_vret C hP hD hS dX1_addPair_9
def fX1_listPairs_L20 (j : Nat) (u : Nat) : Nat → Int32 → Int32 → Int32 → RSt → Option (RSt)
  | 0, _, _, _, _ => none
  | n + 1, x2, x3, x4, S => (if (st_i S (39 + 2 * j)) ≤ x4 then (some S) else (ob_2 (fX0_levelAt u x2 x4 S) fun r_4 S_5 => (if r_4 = (-1 : Int32) then (fX1_listPairs_L20 j u n x2 x3 (x4 + (1 : Int32)) S_5) else (if x3 = (-1 : Int32) then (fX1_listPairs_L20 j u n x2 x4 (x4 + (1 : Int32)) S_5) else (ob_1 (fX1_addPair j u x2 x3 x4 S_5) fun S_10 => (fX1_listPairs_L20 j u n x2 x4 (x4 + (1 : Int32)) S_10))))))
def fX1_listPairs_L7 (j : Nat) (u : Nat) : Nat → Int32 → RSt → Option (RSt)
  | 0, _, _ => none
  | n + 1, x2, S => (if (st_i S (3 * u + 1)) ≤ x2 then (some S) else (ob_1 (fX1_listPairs_L20 j u 1000 x2 (-1 : Int32) (0 : Int32) S) fun S_12 => (fX1_listPairs_L7 j u n (x2 + (1 : Int32)) S_12)))
def fX1_listPairs (j : Nat) (u : Nat) (S : RSt) : Option (RSt) := (ob_1 (fX1_listPairs_L7 j u 1000 (0 : Int32) (st_si S (40 + 2 * j) (0 : Int32))) fun S_14 => (some S_14))
abbrev rmX1_listPairs : Room := { frames := 3, cells := 0, slots := 0, locals := 68 }
theorem nf_X1_listPairs_f59 : Cond.fieldLink RX1 59 "RepeatIndex$Fit" "pairs" "I" ∈ wsX1_listPairs := by decide +kernel
theorem ni_X1_listPairs_X1 : ∀ w ∈ u_ws RX1 TX1 8, w ∈ wsX1_listPairs := by decide +kernel
theorem nf_X1_listPairs_f78 : Cond.fieldLink RX1 78 "RepeatIndex$Book" "homes" "I" ∈ wsX1_listPairs := by decide +kernel
theorem ni_X1_listPairs_X0 : ∀ w ∈ u_ws RX0 TX0 5, w ∈ wsX1_listPairs := by decide +kernel
theorem nf_X1_listPairs_f42 : Cond.fieldLink RX1 42 "RepeatIndex$Fit" "months" "I" ∈ wsX1_listPairs := by decide +kernel
set_option maxHeartbeats 4000000 in
set_option maxRecDepth 100000 in
theorem kX1_listPairs_L20 {l : Launch} {D : va_G} {cy : Nat → ClassId} {ad : Nat → Nat} {E : ke_T} {j : Nat} (hj : j < 2) {u : Nat} (hu : u < 13) {p : Program} {e : Env} {s : State} {m : MethodId} {args : Array Value} {below : List Frame} {meth : Method} {c : Code} {A : Nat → Prop} {Q : State → Prop} (C : km_C p s m args meth c cX1_listPairs 5 RX1 wsX1_listPairs none D (rw_t cy) E A) : ∀ (n : Nat) (x2 : Int32) (x3 : Int32) (x4 : Int32) (S : RSt) (S' : RSt) (h : fX1_listPairs_L20 j u n x2 x3 x4 S = some S') {H : Heap} {locs : List Loc} {ls : Array Slot} (hP : va_P D vwCl ((rw_w cy ad) S) H) (hD : va_D A ((rw_w cy ad) S)) (hS : va_S A s.heap H locs) (hl : lv_has ls 5 [(0, .ref (ad (13 + j))), (1, .ref (ad u)), (2, .int x2), (3, .int x3), (4, .int x4)]) (kx0 : ∀ (H : Heap) (locs : List Loc) (ls : Array Slot), va_P D vwCl ((rw_w cy ad) S') H → va_D A ((rw_w cy ad) S') → va_S A s.heap H locs → lv_has ls 5 [(0, .ref (ad (13 + j))), (1, .ref (ad u)), (2, .int x2)] → W p l e rmX1_listPairs s m args below meth c H locs 0 0 Q (F0 m 63 ls [])), W p l e rmX1_listPairs s m args below meth c H locs 0 0 Q (F0 m 20 ls []) := by
  obtain ⟨⟨hx, hb, hml, hown, hts⟩, hr, hlk, hK, hA, hE, hEE⟩ := id C
  intro n
  induction n with
  | zero =>
    intro x2 x3 x4 S S' h
    rw [fX1_listPairs_L20] at h
    cases h
  | succ n ih =>
    intro x2 x3 x4 S S' h H locs ls hP hD hS hl kx0
    rw [fX1_listPairs_L20] at h
    refine lv_iload hx hb dX1_listPairs_20 (lv_at hl 4 rfl) ?_
    refine lv_aload_n hx hb dX1_listPairs_22 rfl (lv_at hl 0 rfl) ?_
    refine va_get (D := D) (ci := 1) (v := .int (st_i S (39 + 2 * j))) (C := RX1) (T := TX1) (N := 8) hx hb hts ni_X1_listPairs_X1 hown hK hP (13 + j) (rw_Fit hj) rfl 0 (by decide) (hts _ nf_X1_listPairs_f42) (fun _ h9 => h9) rfl dX1_listPairs_23 ?_
    refine lv_icmp_ge (tgt := 63) hx hb dX1_listPairs_26 (by decide) (fun c_2 => ?_) (fun c_2 => ?_)
    · have h := ob_t c_2 h
      cases h
      exact kx0 _ _ _ hP hD hS (lv_sub hl [0, 1, 2] rfl)
    · have h := ob_f c_2 h
      refine lv_aload_n hx hb dX1_listPairs_29 rfl (lv_at hl 1 rfl) ?_
      refine lv_iload_n hx hb dX1_listPairs_30 rfl (lv_at hl 2 rfl) ?_
      refine lv_iload hx hb dX1_listPairs_31 (lv_at hl 4 rfl) ?_
      obtain ⟨r_4, S_5, hc_3, h⟩ := ob_2s h
      refine km_cVi (As := [.int x2, .int x4]) (rest := []) C (kX0_levelAt hEE hu hc_3) (cwV 2 hts gX1_listPairs_X0_levelAt rfl rfl rfl (by decide +kernel) ⟨(Nat.le_of_ble_eq_true rfl), (Nat.le_of_ble_eq_true rfl)⟩) (rw_Book hu) rfl rfl rfl hP hD hS hl.1 rfl (Nat.le_of_ble_eq_true rfl) dX1_listPairs_33 (fun H locs hP hD hS => ?_)
      refine lv_iconst (v := -1) hx hb dX1_listPairs_36 (by decide) ?_
      refine lv_icmp_eq (tgt := 57) hx hb dX1_listPairs_37 (by decide) (fun c_6 => ?_) (fun c_6 => ?_)
      · have h := ob_t c_6 h
        refine lv_iinc (v := x4 + (1 : Int32)) (lv' := [(4, .int (x4 + (1 : Int32))), (0, .ref (ad (13 + j))), (1, .ref (ad u)), (2, .int x2), (3, .int x3)]) hx hb dX1_listPairs_57 hl (k := 4) rfl (congrArg (fun z => x4 + z) (by decide)) (by decide) rfl (fun ls hl => ?_)
        refine lv_goto (tgt := 20) hx hb dX1_listPairs_60 (by decide) ?_
        exact ih _ _ _ _ _ h hP hD hS (lv_sub hl [1, 2, 3, 4, 0] rfl) kx0
      · have h := ob_f c_6 h
        refine lv_iload_n hx hb dX1_listPairs_40 rfl (lv_at hl 3 rfl) ?_
        refine lv_iconst (v := -1) hx hb dX1_listPairs_41 (by decide) ?_
        refine lv_icmp_eq (tgt := 54) hx hb dX1_listPairs_42 (by decide) (fun c_7 => ?_) (fun c_7 => ?_)
        · have h := ob_t c_7 h
          refine lv_iload hx hb dX1_listPairs_54 (lv_at hl 4 rfl) ?_
          refine lv_istore_n (lv' := [(3, .int x4), (0, .ref (ad (13 + j))), (1, .ref (ad u)), (2, .int x2), (4, .int x4)]) hx hb dX1_listPairs_56 rfl hl (by decide) rfl (fun ls hl => ?_)
          refine lv_iinc (v := x4 + (1 : Int32)) (lv' := [(4, .int (x4 + (1 : Int32))), (3, .int x4), (0, .ref (ad (13 + j))), (1, .ref (ad u)), (2, .int x2)]) hx hb dX1_listPairs_57 hl (k := 4) rfl (congrArg (fun z => x4 + z) (by decide)) (by decide) rfl (fun ls hl => ?_)
          refine lv_goto (tgt := 20) hx hb dX1_listPairs_60 (by decide) ?_
          exact ih _ _ _ _ _ h hP hD hS (lv_sub hl [2, 3, 4, 1, 0] rfl) kx0
        · have h := ob_f c_7 h
          refine lv_aload_n hx hb dX1_listPairs_45 rfl (lv_at hl 0 rfl) ?_
          refine lv_aload_n hx hb dX1_listPairs_46 rfl (lv_at hl 1 rfl) ?_
          refine lv_iload_n hx hb dX1_listPairs_47 rfl (lv_at hl 2 rfl) ?_
          refine lv_iload_n hx hb dX1_listPairs_48 rfl (lv_at hl 3 rfl) ?_
          refine lv_iload hx hb dX1_listPairs_49 (lv_at hl 4 rfl) ?_
          obtain ⟨S_10, hc_8, h⟩ := ob_1s h
          refine km_cVv (As := [.ref (ad u), .int x2, .int x3, .int x4]) (rest := []) C (kX1_addPair hEE hj hu hc_8) (cwV 4 hts gX1_listPairs_X1_addPair rfl rfl rfl (by decide +kernel) ⟨(Nat.le_of_ble_eq_true rfl), (Nat.le_of_ble_eq_true rfl)⟩) (rw_Fit hj) rfl rfl rfl hP hD hS hl.1 rfl (Nat.le_of_ble_eq_true rfl) dX1_listPairs_51 (fun H locs hP hD hS => ?_)
          refine lv_iload hx hb dX1_listPairs_54 (lv_at hl 4 rfl) ?_
          refine lv_istore_n (lv' := [(3, .int x4), (0, .ref (ad (13 + j))), (1, .ref (ad u)), (2, .int x2), (4, .int x4)]) hx hb dX1_listPairs_56 rfl hl (by decide) rfl (fun ls hl => ?_)
          refine lv_iinc (v := x4 + (1 : Int32)) (lv' := [(4, .int (x4 + (1 : Int32))), (3, .int x4), (0, .ref (ad (13 + j))), (1, .ref (ad u)), (2, .int x2)]) hx hb dX1_listPairs_57 hl (k := 4) rfl (congrArg (fun z => x4 + z) (by decide)) (by decide) rfl (fun ls hl => ?_)
          refine lv_goto (tgt := 20) hx hb dX1_listPairs_60 (by decide) ?_
          exact ih _ _ _ _ _ h hP hD hS (lv_sub hl [2, 3, 4, 1, 0] rfl) kx0
set_option maxHeartbeats 4000000 in
set_option maxRecDepth 100000 in
theorem kX1_listPairs_L7 {l : Launch} {D : va_G} {cy : Nat → ClassId} {ad : Nat → Nat} {E : ke_T} {j : Nat} (hj : j < 2) {u : Nat} (hu : u < 13) {p : Program} {e : Env} {s : State} {m : MethodId} {args : Array Value} {below : List Frame} {meth : Method} {c : Code} {A : Nat → Prop} {Q : State → Prop} (C : km_C p s m args meth c cX1_listPairs 5 RX1 wsX1_listPairs none D (rw_t cy) E A) : ∀ (n : Nat) (x2 : Int32) (S : RSt) (S' : RSt) (h : fX1_listPairs_L7 j u n x2 S = some S') {H : Heap} {locs : List Loc} {ls : Array Slot} (hP : va_P D vwCl ((rw_w cy ad) S) H) (hD : va_D A ((rw_w cy ad) S)) (hS : va_S A s.heap H locs) (hl : lv_has ls 5 [(0, .ref (ad (13 + j))), (1, .ref (ad u)), (2, .int x2)]) (kx0 : ∀ (H : Heap) (locs : List Loc) (ls : Array Slot), va_P D vwCl ((rw_w cy ad) S') H → va_D A ((rw_w cy ad) S') → va_S A s.heap H locs → lv_has ls 5 [] → W p l e rmX1_listPairs s m args below meth c H locs 0 0 Q (F0 m 69 ls [])), W p l e rmX1_listPairs s m args below meth c H locs 0 0 Q (F0 m 7 ls []) := by
  obtain ⟨⟨hx, hb, hml, hown, hts⟩, hr, hlk, hK, hA, hE, hEE⟩ := id C
  intro n
  induction n with
  | zero =>
    intro x2 S S' h
    rw [fX1_listPairs_L7] at h
    cases h
  | succ n ih =>
    intro x2 S S' h H locs ls hP hD hS hl kx0
    rw [fX1_listPairs_L7] at h
    refine lv_iload_n hx hb dX1_listPairs_7 rfl (lv_at hl 2 rfl) ?_
    refine lv_aload_n hx hb dX1_listPairs_8 rfl (lv_at hl 1 rfl) ?_
    refine va_get (D := D) (ci := 0) (v := .int (st_i S (3 * u + 1))) (C := RX0) (T := TX0) (N := 5) hx hb hts ni_X1_listPairs_X0 hown hK hP u (rw_Book hu) rfl 1 (by decide) (hts _ nf_X1_listPairs_f78) (fun _ h9 => h9) rfl dX1_listPairs_9 ?_
    refine lv_icmp_ge (tgt := 69) hx hb dX1_listPairs_12 (by decide) (fun c_1 => ?_) (fun c_1 => ?_)
    · have h := ob_t c_1 h
      cases h
      exact kx0 _ _ _ hP hD hS (lv_sub hl [] rfl)
    · have h := ob_f c_1 h
      refine lv_iconst (v := -1) hx hb dX1_listPairs_15 (by decide) ?_
      refine lv_istore_n (lv' := [(3, .int (-1 : Int32)), (0, .ref (ad (13 + j))), (1, .ref (ad u)), (2, .int x2)]) hx hb dX1_listPairs_16 rfl hl (by decide) rfl (fun ls hl => ?_)
      refine lv_iconst (v := 0) hx hb dX1_listPairs_17 (by decide) ?_
      refine lv_istore (lv' := [(4, .int (0 : Int32)), (3, .int (-1 : Int32)), (0, .ref (ad (13 + j))), (1, .ref (ad u)), (2, .int x2)]) hx hb dX1_listPairs_18 hl (by decide) rfl (fun ls hl => ?_)
      obtain ⟨S_12, hq_11, h⟩ := ob_1s h
      refine kX1_listPairs_L20 hj hu C _ _ _ _ _ _ hq_11 hP hD hS (lv_sub hl [2, 3, 4, 1, 0] rfl) (fun H locs ls hP hD hS hl => ?_)
      refine lv_iinc (v := x2 + (1 : Int32)) (lv' := [(2, .int (x2 + (1 : Int32))), (0, .ref (ad (13 + j))), (1, .ref (ad u))]) hx hb dX1_listPairs_63 hl (k := 2) rfl (congrArg (fun z => x2 + z) (by decide)) (by decide) rfl (fun ls hl => ?_)
      refine lv_goto (tgt := 7) hx hb dX1_listPairs_66 (by decide) ?_
      exact ih _ _ _ h hP hD hS (lv_sub hl [1, 2, 0] rfl) kx0
set_option maxHeartbeats 4000000 in
set_option maxRecDepth 100000 in
theorem kX1_listPairs {l : Launch} {D : va_G} {cy : Nat → ClassId} {ad : Nat → Nat} {E : ke_T} (hEE : km_E E) {j : Nat} (hj : j < 2) {u : Nat} (hu : u < 13) {S : RSt} {S' : RSt} (h : fX1_listPairs j u S = some S') : km_v l D (rw_t cy) (rw_w cy ad) E yX1_listPairs wsX1_listPairs rmX1_listPairs [.ref (ad (13 + j)), .ref (ad u)] S S' := by
  refine km_v_in (cc := cX1_listPairs) (nL := 5) hEE (by decide) rfl (Nat.le_of_ble_eq_true rfl) ?_
  intro p e s m below meth c A H ls C hP hD hS hl
  have C : km_C p s m _ meth c cX1_listPairs 5 RX1 wsX1_listPairs none D (rw_t cy) E A := C
  obtain ⟨⟨hx, hb, hml, hown, hts⟩, hr, hlk, hK, hA, hE, hEE⟩ := id C
  have hl : lv_has ls 5 [(0, .ref (ad (13 + j))), (1, .ref (ad u))] := hl
  unfold fX1_listPairs at h
  refine lv_aload_n hx hb dX1_listPairs_0 rfl (lv_at hl 0 rfl) ?_
  refine lv_iconst (v := 0) hx hb dX1_listPairs_1 (by decide) ?_
  refine va_put (D := D) (ci := 1) (v := .int (0 : Int32)) (ty := .int) (C := RX1) (T := TX1) (N := 8) hx hb hts ni_X1_listPairs_X1 tyX1 tyX1_ok nmX1 hown hK hP hD hS (13 + j) (rw_Fit hj) rfl 1 (by decide) (hts _ nf_X1_listPairs_f59) (fun _ h9 => h9) rfl (by decide +kernel) rfl rfl (Nat.le_of_ble_eq_true rfl) dX1_listPairs_2 (fun H locs hP hD hS => ?_)
  have hP := st_ps (rw_s_Fit_pairs hj) hP
  have hD := st_ds (rw_s_Fit_pairs hj) hD
  refine lv_iconst (v := 0) hx hb dX1_listPairs_5 (by decide) ?_
  refine lv_istore_n (lv' := [(2, .int (0 : Int32)), (0, .ref (ad (13 + j))), (1, .ref (ad u))]) hx hb dX1_listPairs_6 rfl hl (by decide) rfl (fun ls hl => ?_)
  obtain ⟨S_14, hq_13, h⟩ := ob_1s h
  refine kX1_listPairs_L7 hj hu C _ _ _ _ hq_13 hP hD hS (lv_sub hl [1, 2, 0] rfl) (fun H locs ls hP hD hS hl => ?_)
  obtain rfl := ob_v h
  exact km_vret C hP hD hS dX1_listPairs_69
def fX1_renamePart_L2 (j : Nat) : Nat → Int32 → Int32 → Int32 → RSt → Option (RSt)
  | 0, _, _, _, _ => none
  | n + 1, x1, x2, x3, S => (if (st_i S (39 + 2 * j)) ≤ x3 then (some S) else (ob_in x3 8 (if (st_a S (26 + j) x3.toNatClampNeg) = x1 then (ob_in x3 8 (fX1_renamePart_L2 j n x1 x2 (x3 + (1 : Int32)) (st_sa S (26 + j) x3.toNatClampNeg x2))) else (fX1_renamePart_L2 j n x1 x2 (x3 + (1 : Int32)) S))))
def fX1_renamePart (j : Nat) (x1 : Int32) (x2 : Int32) (S : RSt) : Option (RSt) := (ob_1 (fX1_renamePart_L2 j 1000 x1 x2 (0 : Int32) S) fun S_6 => (some S_6))
abbrev rmX1_renamePart : Room := { frames := 0, cells := 0, slots := 0, locals := 0 }
theorem nf_X1_renamePart_f42 : Cond.fieldLink RX1 42 "RepeatIndex$Fit" "months" "I" ∈ wsX1_renamePart := by decide +kernel
theorem ni_X1_renamePart_X1 : ∀ w ∈ u_ws RX1 TX1 8, w ∈ wsX1_renamePart := by decide +kernel
theorem nf_X1_renamePart_f16 : Cond.fieldLink RX1 16 "RepeatIndex$Fit" "parts" "[I" ∈ wsX1_renamePart := by decide +kernel
set_option maxHeartbeats 4000000 in
set_option maxRecDepth 100000 in
theorem kX1_renamePart_L2 {l : Launch} {D : va_G} {cy : Nat → ClassId} {ad : Nat → Nat} {E : ke_T} {j : Nat} (hj : j < 2) {p : Program} {e : Env} {s : State} {m : MethodId} {args : Array Value} {below : List Frame} {meth : Method} {c : Code} {A : Nat → Prop} {Q : State → Prop} (C : km_C p s m args meth c cX1_renamePart 4 RX1 wsX1_renamePart none D (rw_t cy) E A) : ∀ (n : Nat) (x1 : Int32) (x2 : Int32) (x3 : Int32) (S : RSt) (S' : RSt) (h : fX1_renamePart_L2 j n x1 x2 x3 S = some S') {H : Heap} {locs : List Loc} {ls : Array Slot} (hP : va_P D vwCl ((rw_w cy ad) S) H) (hD : va_D A ((rw_w cy ad) S)) (hS : va_S A s.heap H locs) (hl : lv_has ls 4 [(0, .ref (ad (13 + j))), (1, .int x1), (2, .int x2), (3, .int x3)]) (kx0 : ∀ (H : Heap) (locs : List Loc) (ls : Array Slot), va_P D vwCl ((rw_w cy ad) S') H → va_D A ((rw_w cy ad) S') → va_S A s.heap H locs → lv_has ls 4 [] → W p l e rmX1_renamePart s m args below meth c H locs 0 0 Q (F0 m 33 ls [])), W p l e rmX1_renamePart s m args below meth c H locs 0 0 Q (F0 m 2 ls []) := by
  obtain ⟨⟨hx, hb, hml, hown, hts⟩, hr, hlk, hK, hA, hE, hEE⟩ := id C
  intro n
  induction n with
  | zero =>
    intro x1 x2 x3 S S' h
    rw [fX1_renamePart_L2] at h
    cases h
  | succ n ih =>
    intro x1 x2 x3 S S' h H locs ls hP hD hS hl kx0
    rw [fX1_renamePart_L2] at h
    refine lv_iload_n hx hb dX1_renamePart_2 rfl (lv_at hl 3 rfl) ?_
    refine lv_aload_n hx hb dX1_renamePart_3 rfl (lv_at hl 0 rfl) ?_
    refine va_get (D := D) (ci := 1) (v := .int (st_i S (39 + 2 * j))) (C := RX1) (T := TX1) (N := 8) hx hb hts ni_X1_renamePart_X1 hown hK hP (13 + j) (rw_Fit hj) rfl 0 (by decide) (hts _ nf_X1_renamePart_f42) (fun _ h9 => h9) rfl dX1_renamePart_4 ?_
    refine lv_icmp_ge (tgt := 33) hx hb dX1_renamePart_7 (by decide) (fun c_1 => ?_) (fun c_1 => ?_)
    · have h := ob_t c_1 h
      cases h
      exact kx0 _ _ _ hP hD hS (lv_sub hl [] rfl)
    · have h := ob_f c_1 h
      refine lv_aload_n hx hb dX1_renamePart_10 rfl (lv_at hl 0 rfl) ?_
      refine va_get (D := D) (ci := 1) (v := .ref (ad (49 + j))) (C := RX1) (T := TX1) (N := 8) hx hb hts ni_X1_renamePart_X1 hown hK hP (13 + j) (rw_Fit hj) rfl 3 (by decide) (hts _ nf_X1_renamePart_f16) (fun _ h9 => h9) rfl dX1_renamePart_11 ?_
      refine lv_iload_n hx hb dX1_renamePart_14 rfl (lv_at hl 3 rfl) ?_
      obtain ⟨hv_2, h⟩ := ob_in_s h
      refine va_iald hx hb hK hP (49 + j) 0 (rw_parts hj) rfl hv_2 dX1_renamePart_15 ?_
      refine lv_iload_n hx hb dX1_renamePart_16 rfl (lv_at hl 1 rfl) ?_
      refine lv_icmp_ne (tgt := 27) hx hb dX1_renamePart_17 (by decide) (fun c_3 => ?_) (fun c_3 => ?_)
      · have h := ob_f c_3 h
        refine lv_iinc (v := x3 + (1 : Int32)) (lv' := [(3, .int (x3 + (1 : Int32))), (0, .ref (ad (13 + j))), (1, .int x1), (2, .int x2)]) hx hb dX1_renamePart_27 hl (k := 3) rfl (congrArg (fun z => x3 + z) (by decide)) (by decide) rfl (fun ls hl => ?_)
        refine lv_goto (tgt := 2) hx hb dX1_renamePart_30 (by decide) ?_
        exact ih _ _ _ _ _ h hP hD hS (lv_sub hl [1, 2, 3, 0] rfl) kx0
      · have h := ob_t c_3 h
        refine lv_aload_n hx hb dX1_renamePart_20 rfl (lv_at hl 0 rfl) ?_
        refine va_get (D := D) (ci := 1) (v := .ref (ad (49 + j))) (C := RX1) (T := TX1) (N := 8) hx hb hts ni_X1_renamePart_X1 hown hK hP (13 + j) (rw_Fit hj) rfl 3 (by decide) (hts _ nf_X1_renamePart_f16) (fun _ h9 => h9) rfl dX1_renamePart_21 ?_
        refine lv_iload_n hx hb dX1_renamePart_24 rfl (lv_at hl 3 rfl) ?_
        refine lv_iload_n hx hb dX1_renamePart_25 rfl (lv_at hl 2 rfl) ?_
        obtain ⟨hv_4, h⟩ := ob_in_s h
        refine va_iast hx hb hK hP hD hS (49 + j) 0 (rw_parts hj) rfl hv_4 dX1_renamePart_26 (fun H locs hP hD hS => ?_)
        have hP := st_ps (rw_s_parts hj) hP
        have hD := st_ds (rw_s_parts hj) hD
        refine lv_iinc (v := x3 + (1 : Int32)) (lv' := [(3, .int (x3 + (1 : Int32))), (0, .ref (ad (13 + j))), (1, .int x1), (2, .int x2)]) hx hb dX1_renamePart_27 hl (k := 3) rfl (congrArg (fun z => x3 + z) (by decide)) (by decide) rfl (fun ls hl => ?_)
        refine lv_goto (tgt := 2) hx hb dX1_renamePart_30 (by decide) ?_
        exact ih _ _ _ _ _ h hP hD hS (lv_sub hl [1, 2, 3, 0] rfl) kx0
set_option maxHeartbeats 4000000 in
set_option maxRecDepth 100000 in
theorem kX1_renamePart {l : Launch} {D : va_G} {cy : Nat → ClassId} {ad : Nat → Nat} {E : ke_T} (hEE : km_E E) {j : Nat} (hj : j < 2) {x1 : Int32} {x2 : Int32} {S : RSt} {S' : RSt} (h : fX1_renamePart j x1 x2 S = some S') : km_v l D (rw_t cy) (rw_w cy ad) E yX1_renamePart wsX1_renamePart rmX1_renamePart [.ref (ad (13 + j)), .int x1, .int x2] S S' := by
  refine km_v_in (cc := cX1_renamePart) (nL := 4) hEE (by decide) rfl (Nat.le_of_ble_eq_true rfl) ?_
  intro p e s m below meth c A H ls C hP hD hS hl
  have C : km_C p s m _ meth c cX1_renamePart 4 RX1 wsX1_renamePart none D (rw_t cy) E A := C
  obtain ⟨⟨hx, hb, hml, hown, hts⟩, hr, hlk, hK, hA, hE, hEE⟩ := id C
  have hl : lv_has ls 4 [(0, .ref (ad (13 + j))), (1, .int x1), (2, .int x2)] := hl
  unfold fX1_renamePart at h
  refine lv_iconst (v := 0) hx hb dX1_renamePart_0 (by decide) ?_
  refine lv_istore_n (lv' := [(3, .int (0 : Int32)), (0, .ref (ad (13 + j))), (1, .int x1), (2, .int x2)]) hx hb dX1_renamePart_1 rfl hl (by decide) rfl (fun ls hl => ?_)
  obtain ⟨S_6, hq_5, h⟩ := ob_1s h
  refine kX1_renamePart_L2 hj C _ _ _ _ _ _ hq_5 hP hD hS (lv_sub hl [1, 2, 3, 0] rfl) (fun H locs ls hP hD hS hl => ?_)
  obtain rfl := ob_v h
  exact km_vret C hP hD hS dX1_renamePart_33
def fX1_joinParts_L2 (j : Nat) : Nat → Int32 → RSt → Option (RSt)
  | 0, _, _ => none
  | n + 1, x1, S => (if (st_i S (39 + 2 * j)) ≤ x1 then (some S) else (ob_in x1 8 (fX1_joinParts_L2 j n (x1 + (1 : Int32)) (st_sa S (26 + j) x1.toNatClampNeg x1))))
def fX1_joinParts_L25 (j : Nat) : Nat → Int32 → RSt → Option (RSt)
  | 0, _, _ => none
  | n + 1, x1, S => (if (st_i S (40 + 2 * j)) ≤ x1 then (some S) else (ob_in x1 42 (ob_in (1 : Int32) 5 (ob_in (st_a S (28 + 42 * j + x1.toNatClampNeg) (1 : Int32).toNatClampNeg) 8 (ob_in x1 42 (ob_in (2 : Int32) 5 (ob_in (st_a S (28 + 42 * j + x1.toNatClampNeg) (2 : Int32).toNatClampNeg) 8 (ob_1 (fX1_renamePart j (if (st_a S (26 + j) (st_a S (28 + 42 * j + x1.toNatClampNeg) (1 : Int32).toNatClampNeg).toNatClampNeg) < (st_a S (26 + j) (st_a S (28 + 42 * j + x1.toNatClampNeg) (2 : Int32).toNatClampNeg).toNatClampNeg) then (st_a S (26 + j) (st_a S (28 + 42 * j + x1.toNatClampNeg) (2 : Int32).toNatClampNeg).toNatClampNeg) else (st_a S (26 + j) (st_a S (28 + 42 * j + x1.toNatClampNeg) (1 : Int32).toNatClampNeg).toNatClampNeg)) (if (st_a S (26 + j) (st_a S (28 + 42 * j + x1.toNatClampNeg) (2 : Int32).toNatClampNeg).toNatClampNeg) < (st_a S (26 + j) (st_a S (28 + 42 * j + x1.toNatClampNeg) (1 : Int32).toNatClampNeg).toNatClampNeg) then (st_a S (26 + j) (st_a S (28 + 42 * j + x1.toNatClampNeg) (2 : Int32).toNatClampNeg).toNatClampNeg) else (st_a S (26 + j) (st_a S (28 + 42 * j + x1.toNatClampNeg) (1 : Int32).toNatClampNeg).toNatClampNeg)) S) fun S_14 => (fX1_joinParts_L25 j n (x1 + (1 : Int32)) S_14)))))))))
def fX1_joinParts (j : Nat) (S : RSt) : Option (RSt) := (ob_1 (fX1_joinParts_L2 j 1000 (0 : Int32) S) fun S_4 => (ob_1 (fX1_joinParts_L25 j 1000 (0 : Int32) S_4) fun S_16 => (some S_16)))
abbrev rmX1_joinParts : Room := { frames := 1, cells := 0, slots := 0, locals := 29 }
theorem nf_X1_joinParts_f42 : Cond.fieldLink RX1 42 "RepeatIndex$Fit" "months" "I" ∈ wsX1_joinParts := by decide +kernel
theorem ni_X1_joinParts_X1 : ∀ w ∈ u_ws RX1 TX1 8, w ∈ wsX1_joinParts := by decide +kernel
theorem nf_X1_joinParts_f16 : Cond.fieldLink RX1 16 "RepeatIndex$Fit" "parts" "[I" ∈ wsX1_joinParts := by decide +kernel
theorem nf_X1_joinParts_f59 : Cond.fieldLink RX1 59 "RepeatIndex$Fit" "pairs" "I" ∈ wsX1_joinParts := by decide +kernel
theorem nf_X1_joinParts_f13 : Cond.fieldLink RX1 13 "RepeatIndex$Fit" "pairRows" "[[I" ∈ wsX1_joinParts := by decide +kernel
theorem nf_X1_joinParts_m93 : Cond.methodLink RX1 93 Lib.Math.max.name ∈ wsX1_joinParts := by decide +kernel
theorem nf_X1_joinParts_smax : Cond.static Lib.Math.max.name ∈ wsX1_joinParts := by decide +kernel
theorem nf_X1_joinParts_iMath : Cond.initialized "java/lang/Math" ∈ wsX1_joinParts := by decide +kernel
theorem nf_X1_joinParts_cmax : Cond.code Lib.Math.max.name Lib.Math.max.code 2 (some .int) ∈ wsX1_joinParts := List.mem_of_getElem? (i := 8) rfl
theorem nf_X1_joinParts_m96 : Cond.methodLink RX1 96 Lib.Math.min.name ∈ wsX1_joinParts := by decide +kernel
theorem nf_X1_joinParts_smin : Cond.static Lib.Math.min.name ∈ wsX1_joinParts := by decide +kernel
theorem nf_X1_joinParts_cmin : Cond.code Lib.Math.min.name Lib.Math.min.code 2 (some .int) ∈ wsX1_joinParts := List.mem_of_getElem? (i := 11) rfl
set_option maxHeartbeats 4000000 in
set_option maxRecDepth 100000 in
theorem kX1_joinParts_L2 {l : Launch} {D : va_G} {cy : Nat → ClassId} {ad : Nat → Nat} {E : ke_T} {j : Nat} (hj : j < 2) {p : Program} {e : Env} {s : State} {m : MethodId} {args : Array Value} {below : List Frame} {meth : Method} {c : Code} {A : Nat → Prop} {Q : State → Prop} (C : km_C p s m args meth c cX1_joinParts 4 RX1 wsX1_joinParts none D (rw_t cy) E A) : ∀ (n : Nat) (x1 : Int32) (S : RSt) (S' : RSt) (h : fX1_joinParts_L2 j n x1 S = some S') {H : Heap} {locs : List Loc} {ls : Array Slot} (hP : va_P D vwCl ((rw_w cy ad) S) H) (hD : va_D A ((rw_w cy ad) S)) (hS : va_S A s.heap H locs) (hl : lv_has ls 4 [(0, .ref (ad (13 + j))), (1, .int x1)]) (kx0 : ∀ (H : Heap) (locs : List Loc) (ls : Array Slot), va_P D vwCl ((rw_w cy ad) S') H → va_D A ((rw_w cy ad) S') → va_S A s.heap H locs → lv_has ls 4 [(0, .ref (ad (13 + j)))] → W p l e rmX1_joinParts s m args below meth c H locs 0 0 Q (F0 m 23 ls [])), W p l e rmX1_joinParts s m args below meth c H locs 0 0 Q (F0 m 2 ls []) := by
  obtain ⟨⟨hx, hb, hml, hown, hts⟩, hr, hlk, hK, hA, hE, hEE⟩ := id C
  intro n
  induction n with
  | zero =>
    intro x1 S S' h
    rw [fX1_joinParts_L2] at h
    cases h
  | succ n ih =>
    intro x1 S S' h H locs ls hP hD hS hl kx0
    rw [fX1_joinParts_L2] at h
    refine lv_iload_n hx hb dX1_joinParts_2 rfl (lv_at hl 1 rfl) ?_
    refine lv_aload_n hx hb dX1_joinParts_3 rfl (lv_at hl 0 rfl) ?_
    refine va_get (D := D) (ci := 1) (v := .int (st_i S (39 + 2 * j))) (C := RX1) (T := TX1) (N := 8) hx hb hts ni_X1_joinParts_X1 hown hK hP (13 + j) (rw_Fit hj) rfl 0 (by decide) (hts _ nf_X1_joinParts_f42) (fun _ h9 => h9) rfl dX1_joinParts_4 ?_
    refine lv_icmp_ge (tgt := 23) hx hb dX1_joinParts_7 (by decide) (fun c_1 => ?_) (fun c_1 => ?_)
    · have h := ob_t c_1 h
      cases h
      exact kx0 _ _ _ hP hD hS (lv_sub hl [0] rfl)
    · have h := ob_f c_1 h
      refine lv_aload_n hx hb dX1_joinParts_10 rfl (lv_at hl 0 rfl) ?_
      refine va_get (D := D) (ci := 1) (v := .ref (ad (49 + j))) (C := RX1) (T := TX1) (N := 8) hx hb hts ni_X1_joinParts_X1 hown hK hP (13 + j) (rw_Fit hj) rfl 3 (by decide) (hts _ nf_X1_joinParts_f16) (fun _ h9 => h9) rfl dX1_joinParts_11 ?_
      refine lv_iload_n hx hb dX1_joinParts_14 rfl (lv_at hl 1 rfl) ?_
      refine lv_iload_n hx hb dX1_joinParts_15 rfl (lv_at hl 1 rfl) ?_
      obtain ⟨hv_2, h⟩ := ob_in_s h
      refine va_iast hx hb hK hP hD hS (49 + j) 0 (rw_parts hj) rfl hv_2 dX1_joinParts_16 (fun H locs hP hD hS => ?_)
      have hP := st_ps (rw_s_parts hj) hP
      have hD := st_ds (rw_s_parts hj) hD
      refine lv_iinc (v := x1 + (1 : Int32)) (lv' := [(1, .int (x1 + (1 : Int32))), (0, .ref (ad (13 + j)))]) hx hb dX1_joinParts_17 hl (k := 1) rfl (congrArg (fun z => x1 + z) (by decide)) (by decide) rfl (fun ls hl => ?_)
      refine lv_goto (tgt := 2) hx hb dX1_joinParts_20 (by decide) ?_
      exact ih _ _ _ h hP hD hS (lv_sub hl [1, 0] rfl) kx0
set_option maxHeartbeats 4000000 in
set_option maxRecDepth 100000 in
theorem kX1_joinParts_L25 {l : Launch} {D : va_G} {cy : Nat → ClassId} {ad : Nat → Nat} {E : ke_T} {j : Nat} (hj : j < 2) {p : Program} {e : Env} {s : State} {m : MethodId} {args : Array Value} {below : List Frame} {meth : Method} {c : Code} {A : Nat → Prop} {Q : State → Prop} (C : km_C p s m args meth c cX1_joinParts 4 RX1 wsX1_joinParts none D (rw_t cy) E A) : ∀ (n : Nat) (x1 : Int32) (S : RSt) (S' : RSt) (h : fX1_joinParts_L25 j n x1 S = some S') {H : Heap} {locs : List Loc} {ls : Array Slot} (hP : va_P D vwCl ((rw_w cy ad) S) H) (hD : va_D A ((rw_w cy ad) S)) (hS : va_S A s.heap H locs) (hl : lv_has ls 4 [(0, .ref (ad (13 + j))), (1, .int x1)]) (kx0 : ∀ (H : Heap) (locs : List Loc) (ls : Array Slot), va_P D vwCl ((rw_w cy ad) S') H → va_D A ((rw_w cy ad) S') → va_S A s.heap H locs → lv_has ls 4 [] → W p l e rmX1_joinParts s m args below meth c H locs 0 0 Q (F0 m 81 ls [])), W p l e rmX1_joinParts s m args below meth c H locs 0 0 Q (F0 m 25 ls []) := by
  obtain ⟨⟨hx, hb, hml, hown, hts⟩, hr, hlk, hK, hA, hE, hEE⟩ := id C
  intro n
  induction n with
  | zero =>
    intro x1 S S' h
    rw [fX1_joinParts_L25] at h
    cases h
  | succ n ih =>
    intro x1 S S' h H locs ls hP hD hS hl kx0
    rw [fX1_joinParts_L25] at h
    refine lv_iload_n hx hb dX1_joinParts_25 rfl (lv_at hl 1 rfl) ?_
    refine lv_aload_n hx hb dX1_joinParts_26 rfl (lv_at hl 0 rfl) ?_
    refine va_get (D := D) (ci := 1) (v := .int (st_i S (40 + 2 * j))) (C := RX1) (T := TX1) (N := 8) hx hb hts ni_X1_joinParts_X1 hown hK hP (13 + j) (rw_Fit hj) rfl 1 (by decide) (hts _ nf_X1_joinParts_f59) (fun _ h9 => h9) rfl dX1_joinParts_27 ?_
    refine lv_icmp_ge (tgt := 81) hx hb dX1_joinParts_30 (by decide) (fun c_5 => ?_) (fun c_5 => ?_)
    · have h := ob_t c_5 h
      cases h
      exact kx0 _ _ _ hP hD hS (lv_sub hl [] rfl)
    · have h := ob_f c_5 h
      refine lv_aload_n hx hb dX1_joinParts_33 rfl (lv_at hl 0 rfl) ?_
      refine va_get (D := D) (ci := 1) (v := .ref (ad (49 + j))) (C := RX1) (T := TX1) (N := 8) hx hb hts ni_X1_joinParts_X1 hown hK hP (13 + j) (rw_Fit hj) rfl 3 (by decide) (hts _ nf_X1_joinParts_f16) (fun _ h9 => h9) rfl dX1_joinParts_34 ?_
      refine lv_aload_n hx hb dX1_joinParts_37 rfl (lv_at hl 0 rfl) ?_
      refine va_get (D := D) (ci := 1) (v := .ref (ad (19 + j))) (C := RX1) (T := TX1) (N := 8) hx hb hts ni_X1_joinParts_X1 hown hK hP (13 + j) (rw_Fit hj) rfl 2 (by decide) (hts _ nf_X1_joinParts_f13) (fun _ h9 => h9) rfl dX1_joinParts_38 ?_
      refine lv_iload_n hx hb dX1_joinParts_41 rfl (lv_at hl 1 rfl) ?_
      obtain ⟨hv_6, h⟩ := ob_in_s h
      refine va_aldA hx hb hK hP (19 + j) 4 (rw_pairRows hj) rfl hv_6 dX1_joinParts_42 ?_
      refine W.eq (g2 := F0 m 43 ls [.ref (ad (51 + 42 * j + x1.toNatClampNeg)), .ref (ad (49 + j))]) rfl ?_
      refine lv_iconst (v := 1) hx hb dX1_joinParts_43 (by decide) ?_
      obtain ⟨hv_7, h⟩ := ob_in_s h
      refine va_iald hx hb hK hP (51 + 42 * j + x1.toNatClampNeg) 0 (rw_prow hj (vp_lt hv_6)) rfl hv_7 dX1_joinParts_44 ?_
      obtain ⟨hv_8, h⟩ := ob_in_s h
      refine va_iald hx hb hK hP (49 + j) 0 (rw_parts hj) rfl hv_8 dX1_joinParts_45 ?_
      refine lv_istore_n (lv' := [(2, .int (st_a S (26 + j) (st_a S (28 + 42 * j + x1.toNatClampNeg) (1 : Int32).toNatClampNeg).toNatClampNeg)), (0, .ref (ad (13 + j))), (1, .int x1)]) hx hb dX1_joinParts_46 rfl hl (by decide) rfl (fun ls hl => ?_)
      refine lv_aload_n hx hb dX1_joinParts_47 rfl (lv_at hl 1 rfl) ?_
      refine va_get (D := D) (ci := 1) (v := .ref (ad (49 + j))) (C := RX1) (T := TX1) (N := 8) hx hb hts ni_X1_joinParts_X1 hown hK hP (13 + j) (rw_Fit hj) rfl 3 (by decide) (hts _ nf_X1_joinParts_f16) (fun _ h9 => h9) rfl dX1_joinParts_48 ?_
      refine lv_aload_n hx hb dX1_joinParts_51 rfl (lv_at hl 1 rfl) ?_
      refine va_get (D := D) (ci := 1) (v := .ref (ad (19 + j))) (C := RX1) (T := TX1) (N := 8) hx hb hts ni_X1_joinParts_X1 hown hK hP (13 + j) (rw_Fit hj) rfl 2 (by decide) (hts _ nf_X1_joinParts_f13) (fun _ h9 => h9) rfl dX1_joinParts_52 ?_
      refine lv_iload_n hx hb dX1_joinParts_55 rfl (lv_at hl 2 rfl) ?_
      obtain ⟨hv_9, h⟩ := ob_in_s h
      refine va_aldA hx hb hK hP (19 + j) 4 (rw_pairRows hj) rfl hv_9 dX1_joinParts_56 ?_
      refine W.eq (g2 := F0 m 57 ls [.ref (ad (51 + 42 * j + x1.toNatClampNeg)), .ref (ad (49 + j))]) rfl ?_
      refine lv_iconst (v := 2) hx hb dX1_joinParts_57 (by decide) ?_
      obtain ⟨hv_10, h⟩ := ob_in_s h
      refine va_iald hx hb hK hP (51 + 42 * j + x1.toNatClampNeg) 0 (rw_prow hj (vp_lt hv_9)) rfl hv_10 dX1_joinParts_58 ?_
      obtain ⟨hv_11, h⟩ := ob_in_s h
      refine va_iald hx hb hK hP (49 + j) 0 (rw_parts hj) rfl hv_11 dX1_joinParts_59 ?_
      refine lv_istore_n (lv' := [(3, .int (st_a S (26 + j) (st_a S (28 + 42 * j + x1.toNatClampNeg) (2 : Int32).toNatClampNeg).toNatClampNeg)), (2, .int (st_a S (26 + j) (st_a S (28 + 42 * j + x1.toNatClampNeg) (1 : Int32).toNatClampNeg).toNatClampNeg)), (0, .ref (ad (13 + j))), (1, .int x1)]) hx hb dX1_joinParts_60 rfl hl (by decide) rfl (fun ls hl => ?_)
      refine lv_aload_n hx hb dX1_joinParts_61 rfl (lv_at hl 2 rfl) ?_
      refine lv_iload_n hx hb dX1_joinParts_62 rfl (lv_at hl 1 rfl) ?_
      refine lv_iload_n hx hb dX1_joinParts_63 rfl (lv_at hl 0 rfl) ?_
      refine va_mmax hx hb (by rw [hml]; exact hl.1.symm) hown (hts _ nf_X1_joinParts_m93) (hts _ nf_X1_joinParts_smax) (hts _ nf_X1_joinParts_iMath) (hts _ nf_X1_joinParts_cmax) (Nat.le_of_ble_eq_true rfl) (Nat.le_of_ble_eq_true rfl) (Nat.zero_le _) (Nat.zero_le _) dX1_joinParts_64 ?_
      refine lv_iload_n hx hb dX1_joinParts_67 rfl (lv_at hl 1 rfl) ?_
      refine lv_iload_n hx hb dX1_joinParts_68 rfl (lv_at hl 0 rfl) ?_
      refine va_mmin hx hb (by rw [hml]; exact hl.1.symm) hown (hts _ nf_X1_joinParts_m96) (hts _ nf_X1_joinParts_smin) (hts _ nf_X1_joinParts_iMath) (hts _ nf_X1_joinParts_cmin) (Nat.le_of_ble_eq_true rfl) (Nat.le_of_ble_eq_true rfl) (Nat.zero_le _) (Nat.zero_le _) dX1_joinParts_69 ?_
      obtain ⟨S_14, hc_12, h⟩ := ob_1s h
      refine km_cVv (As := [.int (if (st_a S (26 + j) (st_a S (28 + 42 * j + x1.toNatClampNeg) (1 : Int32).toNatClampNeg).toNatClampNeg) < (st_a S (26 + j) (st_a S (28 + 42 * j + x1.toNatClampNeg) (2 : Int32).toNatClampNeg).toNatClampNeg) then (st_a S (26 + j) (st_a S (28 + 42 * j + x1.toNatClampNeg) (2 : Int32).toNatClampNeg).toNatClampNeg) else (st_a S (26 + j) (st_a S (28 + 42 * j + x1.toNatClampNeg) (1 : Int32).toNatClampNeg).toNatClampNeg)), .int (if (st_a S (26 + j) (st_a S (28 + 42 * j + x1.toNatClampNeg) (2 : Int32).toNatClampNeg).toNatClampNeg) < (st_a S (26 + j) (st_a S (28 + 42 * j + x1.toNatClampNeg) (1 : Int32).toNatClampNeg).toNatClampNeg) then (st_a S (26 + j) (st_a S (28 + 42 * j + x1.toNatClampNeg) (2 : Int32).toNatClampNeg).toNatClampNeg) else (st_a S (26 + j) (st_a S (28 + 42 * j + x1.toNatClampNeg) (1 : Int32).toNatClampNeg).toNatClampNeg))]) (rest := []) C (kX1_renamePart hEE hj hc_12) (cwV 2 hts gX1_joinParts_X1_renamePart rfl rfl rfl (by decide +kernel) ⟨(Nat.le_of_ble_eq_true rfl), (Nat.le_of_ble_eq_true rfl)⟩) (rw_Fit hj) rfl rfl rfl hP hD hS hl.1 rfl (Nat.le_of_ble_eq_true rfl) dX1_joinParts_72 (fun H locs hP hD hS => ?_)
      refine lv_iinc (v := x1 + (1 : Int32)) (lv' := [(1, .int (x1 + (1 : Int32))), (3, .int (st_a S (26 + j) (st_a S (28 + 42 * j + x1.toNatClampNeg) (2 : Int32).toNatClampNeg).toNatClampNeg)), (2, .int (st_a S (26 + j) (st_a S (28 + 42 * j + x1.toNatClampNeg) (1 : Int32).toNatClampNeg).toNatClampNeg)), (0, .ref (ad (13 + j)))]) hx hb dX1_joinParts_75 hl (k := 3) rfl (congrArg (fun z => x1 + z) (by decide)) (by decide) rfl (fun ls hl => ?_)
      refine lv_goto (tgt := 25) hx hb dX1_joinParts_78 (by decide) ?_
      exact ih _ _ _ h hP hD hS (lv_sub hl [3, 0] rfl) kx0
set_option maxHeartbeats 4000000 in
set_option maxRecDepth 100000 in
theorem kX1_joinParts {l : Launch} {D : va_G} {cy : Nat → ClassId} {ad : Nat → Nat} {E : ke_T} (hEE : km_E E) {j : Nat} (hj : j < 2) {S : RSt} {S' : RSt} (h : fX1_joinParts j S = some S') : km_v l D (rw_t cy) (rw_w cy ad) E yX1_joinParts wsX1_joinParts rmX1_joinParts [.ref (ad (13 + j))] S S' := by
  refine km_v_in (cc := cX1_joinParts) (nL := 4) hEE (by decide) rfl (Nat.le_of_ble_eq_true rfl) ?_
  intro p e s m below meth c A H ls C hP hD hS hl
  have C : km_C p s m _ meth c cX1_joinParts 4 RX1 wsX1_joinParts none D (rw_t cy) E A := C
  obtain ⟨⟨hx, hb, hml, hown, hts⟩, hr, hlk, hK, hA, hE, hEE⟩ := id C
  have hl : lv_has ls 4 [(0, .ref (ad (13 + j)))] := hl
  unfold fX1_joinParts at h
  refine lv_iconst (v := 0) hx hb dX1_joinParts_0 (by decide) ?_
  refine lv_istore_n (lv' := [(1, .int (0 : Int32)), (0, .ref (ad (13 + j)))]) hx hb dX1_joinParts_1 rfl hl (by decide) rfl (fun ls hl => ?_)
  obtain ⟨S_4, hq_3, h⟩ := ob_1s h
  refine kX1_joinParts_L2 hj C _ _ _ _ hq_3 hP hD hS (lv_sub hl [1, 0] rfl) (fun H locs ls hP hD hS hl => ?_)
  refine lv_iconst (v := 0) hx hb dX1_joinParts_23 (by decide) ?_
  refine lv_istore_n (lv' := [(1, .int (0 : Int32)), (0, .ref (ad (13 + j)))]) hx hb dX1_joinParts_24 rfl hl (by decide) rfl (fun ls hl => ?_)
  obtain ⟨S_16, hq_15, h⟩ := ob_1s h
  refine kX1_joinParts_L25 hj C _ _ _ _ hq_15 hP hD hS (lv_sub hl [1, 0] rfl) (fun H locs ls hP hD hS hl => ?_)
  obtain rfl := ob_v h
  exact km_vret C hP hD hS dX1_joinParts_81
def fX1_isFirst (j : Nat) (x1 : Int32) (S : RSt) : Option (Int32 × RSt) := (ob_in x1 8 (if (st_a S (26 + j) x1.toNatClampNeg) = x1 then (some ((1 : Int32), S)) else (some ((0 : Int32), S))))
abbrev rmX1_isFirst : Room := { frames := 0, cells := 0, slots := 0, locals := 0 }
theorem nf_X1_isFirst_f16 : Cond.fieldLink RX1 16 "RepeatIndex$Fit" "parts" "[I" ∈ wsX1_isFirst := by decide +kernel
theorem ni_X1_isFirst_X1 : ∀ w ∈ u_ws RX1 TX1 8, w ∈ wsX1_isFirst := by decide +kernel
set_option maxHeartbeats 4000000 in
set_option maxRecDepth 100000 in
theorem kX1_isFirst {l : Launch} {D : va_G} {cy : Nat → ClassId} {ad : Nat → Nat} {E : ke_T} (hEE : km_E E) {j : Nat} (hj : j < 2) {x1 : Int32} {S : RSt} {r : Int32} {S' : RSt} (h : fX1_isFirst j x1 S = some (r, S')) : km_z l D (rw_t cy) (rw_w cy ad) E yX1_isFirst wsX1_isFirst rmX1_isFirst [.ref (ad (13 + j)), .int x1] S r S' := by
  refine km_z_in (cc := cX1_isFirst) (nL := 2) hEE (by decide) rfl (Nat.le_of_ble_eq_true rfl) ?_
  intro p e s m below meth c A H ls C hP hD hS hl
  have C : km_C p s m _ meth c cX1_isFirst 2 RX1 wsX1_isFirst (some .boolean) D (rw_t cy) E A := C
  obtain ⟨⟨hx, hb, hml, hown, hts⟩, hr, hlk, hK, hA, hE, hEE⟩ := id C
  have hl : lv_has ls 2 [(0, .ref (ad (13 + j))), (1, .int x1)] := hl
  unfold fX1_isFirst at h
  refine lv_aload_n hx hb dX1_isFirst_0 rfl (lv_at hl 0 rfl) ?_
  refine va_get (D := D) (ci := 1) (v := .ref (ad (49 + j))) (C := RX1) (T := TX1) (N := 8) hx hb hts ni_X1_isFirst_X1 hown hK hP (13 + j) (rw_Fit hj) rfl 3 (by decide) (hts _ nf_X1_isFirst_f16) (fun _ h9 => h9) rfl dX1_isFirst_1 ?_
  refine lv_iload_n hx hb dX1_isFirst_4 rfl (lv_at hl 1 rfl) ?_
  obtain ⟨hv_1, h⟩ := ob_in_s h
  refine va_iald hx hb hK hP (49 + j) 0 (rw_parts hj) rfl hv_1 dX1_isFirst_5 ?_
  refine lv_iload_n hx hb dX1_isFirst_6 rfl (lv_at hl 1 rfl) ?_
  refine lv_icmp_ne (tgt := 14) hx hb dX1_isFirst_7 (by decide) (fun c_2 => ?_) (fun c_2 => ?_)
  · have h := ob_f c_2 h
    refine lv_iconst (v := 0) hx hb dX1_isFirst_14 (by decide) ?_
    obtain ⟨rfl, rfl⟩ := ob_w h
    exact km_zret C (by decide) hP hD hS dX1_isFirst_15
  · have h := ob_t c_2 h
    refine lv_iconst (v := 1) hx hb dX1_isFirst_10 (by decide) ?_
    refine lv_goto (tgt := 15) hx hb dX1_isFirst_11 (by decide) ?_
    obtain ⟨rfl, rfl⟩ := ob_w h
    exact km_zret C (by decide) hP hD hS dX1_isFirst_15
