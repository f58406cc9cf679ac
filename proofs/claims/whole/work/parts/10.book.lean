def fX0_reset_L17 (j : Nat) : Nat → Int32 → RSt → Option (RSt)
  | 0, _, _ => none
  | n + 1, x2, S => (if (8 : Int32) ≤ x2 then (some S) else (ob_in x2 8 (fX0_reset_L17 j n (x2 + (1 : Int32)) (st_sa S (2 * j) x2.toNatClampNeg (0 : Int32)))))
def fX0_reset_L41 (j : Nat) : Nat → Int32 → RSt → Option (RSt)
  | 0, _, _ => none
  | n + 1, x2, S => (if (48 : Int32) ≤ x2 then (some S) else (ob_in x2 48 (fX0_reset_L41 j n (x2 + (1 : Int32)) (st_sa S (2 * j + 1) x2.toNatClampNeg (-1 : Int32)))))
def fX0_reset (j : Nat) (x1 : Int32) (S : RSt) : Option (RSt) := (ob_1 (fX0_reset_L17 j 1000 (0 : Int32) (st_si (st_si (st_si S (3 * j) x1) (3 * j + 1) (0 : Int32)) (3 * j + 2) (0 : Int32))) fun S_4 => (ob_1 (fX0_reset_L41 j 1000 (0 : Int32) S_4) fun S_8 => (some S_8)))
abbrev rmX0_reset : Room := { frames := 0, cells := 0, slots := 0, locals := 0 }
theorem nf_X0_reset_f22 : Cond.fieldLink RX0 22 "RepeatIndex$Book" "months" "I" ∈ wsX0_reset := by decide +kernel
theorem ni_X0_reset_X0 : ∀ w ∈ u_ws RX0 TX0 5, w ∈ wsX0_reset := by decide +kernel
theorem nf_X0_reset_f26 : Cond.fieldLink RX0 26 "RepeatIndex$Book" "homes" "I" ∈ wsX0_reset := by decide +kernel
theorem nf_X0_reset_f29 : Cond.fieldLink RX0 29 "RepeatIndex$Book" "sales" "I" ∈ wsX0_reset := by decide +kernel
theorem nf_X0_reset_f9 : Cond.fieldLink RX0 9 "RepeatIndex$Book" "weights" "[I" ∈ wsX0_reset := by decide +kernel
theorem nf_X0_reset_f15 : Cond.fieldLink RX0 15 "RepeatIndex$Book" "levels" "[I" ∈ wsX0_reset := by decide +kernel
set_option maxHeartbeats 4000000 in
set_option maxRecDepth 100000 in
theorem kX0_reset_L17 {l : Launch} {D : va_G} {cy : Nat → ClassId} {ad : Nat → Nat} {E : ke_T} {j : Nat} (hj : j < 13) {p : Program} {e : Env} {s : State} {m : MethodId} {args : Array Value} {below : List Frame} {meth : Method} {c : Code} {A : Nat → Prop} {Q : State → Prop} (C : km_C p s m args meth c cX0_reset 3 RX0 wsX0_reset none D (rw_t cy) E A) : ∀ (n : Nat) (x2 : Int32) (S : RSt) (S' : RSt) (h : fX0_reset_L17 j n x2 S = some S') {H : Heap} {locs : List Loc} {ls : Array Slot} (hP : va_P D vwCl ((rw_w cy ad) S) H) (hD : va_D A ((rw_w cy ad) S)) (hS : va_S A s.heap H locs) (hl : lv_has ls 3 [(0, .ref (ad j)), (2, .int x2)]) (kx0 : ∀ (H : Heap) (locs : List Loc) (ls : Array Slot), va_P D vwCl ((rw_w cy ad) S') H → va_D A ((rw_w cy ad) S') → va_S A s.heap H locs → lv_has ls 3 [(0, .ref (ad j))] → W p l e rmX0_reset s m args below meth c H locs 0 0 Q (F0 m 39 ls [])), W p l e rmX0_reset s m args below meth c H locs 0 0 Q (F0 m 17 ls []) := by
  obtain ⟨⟨hx, hb, hml, hown, hts⟩, hr, hlk, hK, hA, hE, hEE⟩ := id C
  intro n
  induction n with
  | zero =>
    intro x2 S S' h
    rw [fX0_reset_L17] at h
    cases h
  | succ n ih =>
    intro x2 S S' h H locs ls hP hD hS hl kx0
    rw [fX0_reset_L17] at h
    refine lv_iload_n hx hb dX0_reset_17 rfl (lv_at hl 1 rfl) ?_
    refine lv_aload_n hx hb dX0_reset_18 rfl (lv_at hl 0 rfl) ?_
    refine va_get (D := D) (ci := 0) (v := .ref (ad (23 + 2 * j))) (C := RX0) (T := TX0) (N := 5) hx hb hts ni_X0_reset_X0 hown hK hP j (rw_Book hj) rfl 3 (by decide) (hts _ nf_X0_reset_f9) (fun _ h9 => h9) rfl dX0_reset_19 ?_
    refine va_alen (v := 8) hx hb hK hP (23 + 2 * j) 0 (rw_weights hj) rfl (show Int32.ofNat 8 = 8 by decide) dX0_reset_22 ?_
    refine lv_icmp_ge (tgt := 39) hx hb dX0_reset_23 (by decide) (fun c_1 => ?_) (fun c_1 => ?_)
    · have h := ob_t c_1 h
      cases h
      exact kx0 _ _ _ hP hD hS (lv_sub hl [0] rfl)
    · have h := ob_f c_1 h
      refine lv_aload_n hx hb dX0_reset_26 rfl (lv_at hl 0 rfl) ?_
      refine va_get (D := D) (ci := 0) (v := .ref (ad (23 + 2 * j))) (C := RX0) (T := TX0) (N := 5) hx hb hts ni_X0_reset_X0 hown hK hP j (rw_Book hj) rfl 3 (by decide) (hts _ nf_X0_reset_f9) (fun _ h9 => h9) rfl dX0_reset_27 ?_
      refine lv_iload_n hx hb dX0_reset_30 rfl (lv_at hl 1 rfl) ?_
      refine lv_iconst (v := 0) hx hb dX0_reset_31 (by decide) ?_
      obtain ⟨hv_2, h⟩ := ob_in_s h
      refine va_iast hx hb hK hP hD hS (23 + 2 * j) 0 (rw_weights hj) rfl hv_2 dX0_reset_32 (fun H locs hP hD hS => ?_)
      have hP := st_ps (rw_s_weights hj) hP
      have hD := st_ds (rw_s_weights hj) hD
      refine lv_iinc (v := x2 + (1 : Int32)) (lv' := [(2, .int (x2 + (1 : Int32))), (0, .ref (ad j))]) hx hb dX0_reset_33 hl (k := 1) rfl (congrArg (fun z => x2 + z) (by decide)) (by decide) rfl (fun ls hl => ?_)
      refine lv_goto (tgt := 17) hx hb dX0_reset_36 (by decide) ?_
      exact ih _ _ _ h hP hD hS (lv_sub hl [1, 0] rfl) kx0
set_option maxHeartbeats 4000000 in
set_option maxRecDepth 100000 in
theorem kX0_reset_L41 {l : Launch} {D : va_G} {cy : Nat → ClassId} {ad : Nat → Nat} {E : ke_T} {j : Nat} (hj : j < 13) {p : Program} {e : Env} {s : State} {m : MethodId} {args : Array Value} {below : List Frame} {meth : Method} {c : Code} {A : Nat → Prop} {Q : State → Prop} (C : km_C p s m args meth c cX0_reset 3 RX0 wsX0_reset none D (rw_t cy) E A) : ∀ (n : Nat) (x2 : Int32) (S : RSt) (S' : RSt) (h : fX0_reset_L41 j n x2 S = some S') {H : Heap} {locs : List Loc} {ls : Array Slot} (hP : va_P D vwCl ((rw_w cy ad) S) H) (hD : va_D A ((rw_w cy ad) S)) (hS : va_S A s.heap H locs) (hl : lv_has ls 3 [(0, .ref (ad j)), (2, .int x2)]) (kx0 : ∀ (H : Heap) (locs : List Loc) (ls : Array Slot), va_P D vwCl ((rw_w cy ad) S') H → va_D A ((rw_w cy ad) S') → va_S A s.heap H locs → lv_has ls 3 [] → W p l e rmX0_reset s m args below meth c H locs 0 0 Q (F0 m 63 ls [])), W p l e rmX0_reset s m args below meth c H locs 0 0 Q (F0 m 41 ls []) := by
  obtain ⟨⟨hx, hb, hml, hown, hts⟩, hr, hlk, hK, hA, hE, hEE⟩ := id C
  intro n
  induction n with
  | zero =>
    intro x2 S S' h
    rw [fX0_reset_L41] at h
    cases h
  | succ n ih =>
    intro x2 S S' h H locs ls hP hD hS hl kx0
    rw [fX0_reset_L41] at h
    refine lv_iload_n hx hb dX0_reset_41 rfl (lv_at hl 1 rfl) ?_
    refine lv_aload_n hx hb dX0_reset_42 rfl (lv_at hl 0 rfl) ?_
    refine va_get (D := D) (ci := 0) (v := .ref (ad (24 + 2 * j))) (C := RX0) (T := TX0) (N := 5) hx hb hts ni_X0_reset_X0 hown hK hP j (rw_Book hj) rfl 4 (by decide) (hts _ nf_X0_reset_f15) (fun _ h9 => h9) rfl dX0_reset_43 ?_
    refine va_alen (v := 48) hx hb hK hP (24 + 2 * j) 0 (rw_levels hj) rfl (show Int32.ofNat 48 = 48 by decide) dX0_reset_46 ?_
    refine lv_icmp_ge (tgt := 63) hx hb dX0_reset_47 (by decide) (fun c_5 => ?_) (fun c_5 => ?_)
    · have h := ob_t c_5 h
      cases h
      exact kx0 _ _ _ hP hD hS (lv_sub hl [] rfl)
    · have h := ob_f c_5 h
      refine lv_aload_n hx hb dX0_reset_50 rfl (lv_at hl 0 rfl) ?_
      refine va_get (D := D) (ci := 0) (v := .ref (ad (24 + 2 * j))) (C := RX0) (T := TX0) (N := 5) hx hb hts ni_X0_reset_X0 hown hK hP j (rw_Book hj) rfl 4 (by decide) (hts _ nf_X0_reset_f15) (fun _ h9 => h9) rfl dX0_reset_51 ?_
      refine lv_iload_n hx hb dX0_reset_54 rfl (lv_at hl 1 rfl) ?_
      refine lv_iconst (v := -1) hx hb dX0_reset_55 (by decide) ?_
      obtain ⟨hv_6, h⟩ := ob_in_s h
      refine va_iast hx hb hK hP hD hS (24 + 2 * j) 0 (rw_levels hj) rfl hv_6 dX0_reset_56 (fun H locs hP hD hS => ?_)
      have hP := st_ps (rw_s_levels hj) hP
      have hD := st_ds (rw_s_levels hj) hD
      refine lv_iinc (v := x2 + (1 : Int32)) (lv' := [(2, .int (x2 + (1 : Int32))), (0, .ref (ad j))]) hx hb dX0_reset_57 hl (k := 1) rfl (congrArg (fun z => x2 + z) (by decide)) (by decide) rfl (fun ls hl => ?_)
      refine lv_goto (tgt := 41) hx hb dX0_reset_60 (by decide) ?_
      exact ih _ _ _ h hP hD hS (lv_sub hl [1, 0] rfl) kx0
set_option maxHeartbeats 4000000 in
set_option maxRecDepth 100000 in
theorem kX0_reset {l : Launch} {D : va_G} {cy : Nat → ClassId} {ad : Nat → Nat} {E : ke_T} (hEE : km_E E) {j : Nat} (hj : j < 13) {x1 : Int32} {S : RSt} {S' : RSt} (h : fX0_reset j x1 S = some S') : km_v l D (rw_t cy) (rw_w cy ad) E yX0_reset wsX0_reset rmX0_reset [.ref (ad j), .int x1] S S' := by
  refine km_v_in (cc := cX0_reset) (nL := 3) hEE (by decide) rfl (Nat.le_of_ble_eq_true rfl) ?_
  intro p e s m below meth c A H ls C hP hD hS hl
  have C : km_C p s m _ meth c cX0_reset 3 RX0 wsX0_reset none D (rw_t cy) E A := C
  obtain ⟨⟨hx, hb, hml, hown, hts⟩, hr, hlk, hK, hA, hE, hEE⟩ := id C
  have hl : lv_has ls 3 [(0, .ref (ad j)), (1, .int x1)] := hl
  unfold fX0_reset at h
  refine lv_aload_n hx hb dX0_reset_0 rfl (lv_at hl 0 rfl) ?_
  refine lv_iload_n hx hb dX0_reset_1 rfl (lv_at hl 1 rfl) ?_
  refine va_put (D := D) (ci := 0) (v := .int x1) (ty := .int) (C := RX0) (T := TX0) (N := 5) hx hb hts ni_X0_reset_X0 tyX0 tyX0_ok nmX0 hown hK hP hD hS j (rw_Book hj) rfl 0 (by decide) (hts _ nf_X0_reset_f22) (fun _ h9 => h9) rfl (by decide +kernel) rfl rfl (Nat.le_of_ble_eq_true rfl) dX0_reset_2 (fun H locs hP hD hS => ?_)
  have hP := st_ps (rw_s_Book_months hj) hP
  have hD := st_ds (rw_s_Book_months hj) hD
  refine lv_aload_n hx hb dX0_reset_5 rfl (lv_at hl 0 rfl) ?_
  refine lv_iconst (v := 0) hx hb dX0_reset_6 (by decide) ?_
  refine va_put (D := D) (ci := 0) (v := .int (0 : Int32)) (ty := .int) (C := RX0) (T := TX0) (N := 5) hx hb hts ni_X0_reset_X0 tyX0 tyX0_ok nmX0 hown hK hP hD hS j (rw_Book hj) rfl 1 (by decide) (hts _ nf_X0_reset_f26) (fun _ h9 => h9) rfl (by decide +kernel) rfl rfl (Nat.le_of_ble_eq_true rfl) dX0_reset_7 (fun H locs hP hD hS => ?_)
  have hP := st_ps (rw_s_Book_homes hj) hP
  have hD := st_ds (rw_s_Book_homes hj) hD
  refine lv_aload_n hx hb dX0_reset_10 rfl (lv_at hl 0 rfl) ?_
  refine lv_iconst (v := 0) hx hb dX0_reset_11 (by decide) ?_
  refine va_put (D := D) (ci := 0) (v := .int (0 : Int32)) (ty := .int) (C := RX0) (T := TX0) (N := 5) hx hb hts ni_X0_reset_X0 tyX0 tyX0_ok nmX0 hown hK hP hD hS j (rw_Book hj) rfl 2 (by decide) (hts _ nf_X0_reset_f29) (fun _ h9 => h9) rfl (by decide +kernel) rfl rfl (Nat.le_of_ble_eq_true rfl) dX0_reset_12 (fun H locs hP hD hS => ?_)
  have hP := st_ps (rw_s_Book_sales hj) hP
  have hD := st_ds (rw_s_Book_sales hj) hD
  refine lv_iconst (v := 0) hx hb dX0_reset_15 (by decide) ?_
  refine lv_istore_n (lv' := [(2, .int (0 : Int32)), (0, .ref (ad j)), (1, .int x1)]) hx hb dX0_reset_16 rfl hl (by decide) rfl (fun ls hl => ?_)
  obtain ⟨S_4, hq_3, h⟩ := ob_1s h
  refine kX0_reset_L17 hj C _ _ _ _ hq_3 hP hD hS (lv_sub hl [1, 0] rfl) (fun H locs ls hP hD hS hl => ?_)
  refine lv_iconst (v := 0) hx hb dX0_reset_39 (by decide) ?_
  refine lv_istore_n (lv' := [(2, .int (0 : Int32)), (0, .ref (ad j))]) hx hb dX0_reset_40 rfl hl (by decide) rfl (fun ls hl => ?_)
  obtain ⟨S_8, hq_7, h⟩ := ob_1s h
  refine kX0_reset_L41 hj C _ _ _ _ hq_7 hP hD hS (lv_sub hl [1, 0] rfl) (fun H locs ls hP hD hS hl => ?_)
  obtain rfl := ob_v h
  exact km_vret C hP hD hS dX0_reset_63
def fX0_copyFrom (j : Nat) (u : Nat) (S : RSt) : Option (RSt) := (some (st_cp (st_cp (st_si (st_si (st_si S (3 * j) (st_i S (3 * u))) (3 * j + 1) (st_i (st_si S (3 * j) (st_i S (3 * u))) (3 * u + 1))) (3 * j + 2) (st_i (st_si (st_si S (3 * j) (st_i S (3 * u))) (3 * j + 1) (st_i (st_si S (3 * j) (st_i S (3 * u))) (3 * u + 1))) (3 * u + 2))) (2 * u) (2 * j) (0 : Int32).toNatClampNeg (0 : Int32).toNatClampNeg (8 : Int32).toNatClampNeg) (2 * u + 1) (2 * j + 1) (0 : Int32).toNatClampNeg (0 : Int32).toNatClampNeg (48 : Int32).toNatClampNeg))
abbrev rmX0_copyFrom : Room := { frames := 1, cells := 0, slots := 0, locals := 60 }
theorem nf_X0_copyFrom_f22 : Cond.fieldLink RX0 22 "RepeatIndex$Book" "months" "I" ∈ wsX0_copyFrom := by decide +kernel
theorem ni_X0_copyFrom_X0 : ∀ w ∈ u_ws RX0 TX0 5, w ∈ wsX0_copyFrom := by decide +kernel
theorem nf_X0_copyFrom_f26 : Cond.fieldLink RX0 26 "RepeatIndex$Book" "homes" "I" ∈ wsX0_copyFrom := by decide +kernel
theorem nf_X0_copyFrom_f29 : Cond.fieldLink RX0 29 "RepeatIndex$Book" "sales" "I" ∈ wsX0_copyFrom := by decide +kernel
theorem nf_X0_copyFrom_f9 : Cond.fieldLink RX0 9 "RepeatIndex$Book" "weights" "[I" ∈ wsX0_copyFrom := by decide +kernel
theorem nf_X0_copyFrom_m32 : Cond.methodLink RX0 32 arraycopyName ∈ wsX0_copyFrom := by decide +kernel
theorem nf_X0_copyFrom_nac : Cond.native arraycopyName ∈ wsX0_copyFrom := by decide +kernel
theorem nf_X0_copyFrom_sac : Cond.static arraycopyName ∈ wsX0_copyFrom := by decide +kernel
theorem nf_X0_copyFrom_iSys : Cond.initialized "java/lang/System" ∈ wsX0_copyFrom := by decide +kernel
theorem nf_X0_copyFrom_f15 : Cond.fieldLink RX0 15 "RepeatIndex$Book" "levels" "[I" ∈ wsX0_copyFrom := by decide +kernel
set_option maxHeartbeats 4000000 in
set_option maxRecDepth 100000 in
theorem kX0_copyFrom {l : Launch} {D : va_G} {cy : Nat → ClassId} {ad : Nat → Nat} {E : ke_T} (hEE : km_E E) {j : Nat} (hj : j < 13) {u : Nat} (hu : u < 13) {S : RSt} {S' : RSt} (h : fX0_copyFrom j u S = some S') : km_v l D (rw_t cy) (rw_w cy ad) E yX0_copyFrom wsX0_copyFrom rmX0_copyFrom [.ref (ad j), .ref (ad u)] S S' := by
  refine km_v_in (cc := cX0_copyFrom) (nL := 2) hEE (by decide) rfl (Nat.le_of_ble_eq_true rfl) ?_
  intro p e s m below meth c A H ls C hP hD hS hl
  have C : km_C p s m _ meth c cX0_copyFrom 2 RX0 wsX0_copyFrom none D (rw_t cy) E A := C
  obtain ⟨⟨hx, hb, hml, hown, hts⟩, hr, hlk, hK, hA, hE, hEE⟩ := id C
  have hl : lv_has ls 2 [(0, .ref (ad j)), (1, .ref (ad u))] := hl
  unfold fX0_copyFrom at h
  refine lv_aload_n hx hb dX0_copyFrom_0 rfl (lv_at hl 0 rfl) ?_
  refine lv_aload_n hx hb dX0_copyFrom_1 rfl (lv_at hl 1 rfl) ?_
  refine va_get (D := D) (ci := 0) (v := .int (st_i S (3 * u))) (C := RX0) (T := TX0) (N := 5) hx hb hts ni_X0_copyFrom_X0 hown hK hP u (rw_Book hu) rfl 0 (by decide) (hts _ nf_X0_copyFrom_f22) (fun _ h9 => h9) rfl dX0_copyFrom_2 ?_
  refine va_put (D := D) (ci := 0) (v := .int (st_i S (3 * u))) (ty := .int) (C := RX0) (T := TX0) (N := 5) hx hb hts ni_X0_copyFrom_X0 tyX0 tyX0_ok nmX0 hown hK hP hD hS j (rw_Book hj) rfl 0 (by decide) (hts _ nf_X0_copyFrom_f22) (fun _ h9 => h9) rfl (by decide +kernel) rfl rfl (Nat.le_of_ble_eq_true rfl) dX0_copyFrom_5 (fun H locs hP hD hS => ?_)
  have hP := st_ps (rw_s_Book_months hj) hP
  have hD := st_ds (rw_s_Book_months hj) hD
  refine lv_aload_n hx hb dX0_copyFrom_8 rfl (lv_at hl 0 rfl) ?_
  refine lv_aload_n hx hb dX0_copyFrom_9 rfl (lv_at hl 1 rfl) ?_
  refine va_get (D := D) (ci := 0) (v := .int (st_i (st_si S (3 * j) (st_i S (3 * u))) (3 * u + 1))) (C := RX0) (T := TX0) (N := 5) hx hb hts ni_X0_copyFrom_X0 hown hK hP u (rw_Book hu) rfl 1 (by decide) (hts _ nf_X0_copyFrom_f26) (fun _ h9 => h9) rfl dX0_copyFrom_10 ?_
  refine va_put (D := D) (ci := 0) (v := .int (st_i (st_si S (3 * j) (st_i S (3 * u))) (3 * u + 1))) (ty := .int) (C := RX0) (T := TX0) (N := 5) hx hb hts ni_X0_copyFrom_X0 tyX0 tyX0_ok nmX0 hown hK hP hD hS j (rw_Book hj) rfl 1 (by decide) (hts _ nf_X0_copyFrom_f26) (fun _ h9 => h9) rfl (by decide +kernel) rfl rfl (Nat.le_of_ble_eq_true rfl) dX0_copyFrom_13 (fun H locs hP hD hS => ?_)
  have hP := st_ps (rw_s_Book_homes hj) hP
  have hD := st_ds (rw_s_Book_homes hj) hD
  refine lv_aload_n hx hb dX0_copyFrom_16 rfl (lv_at hl 0 rfl) ?_
  refine lv_aload_n hx hb dX0_copyFrom_17 rfl (lv_at hl 1 rfl) ?_
  refine va_get (D := D) (ci := 0) (v := .int (st_i (st_si (st_si S (3 * j) (st_i S (3 * u))) (3 * j + 1) (st_i (st_si S (3 * j) (st_i S (3 * u))) (3 * u + 1))) (3 * u + 2))) (C := RX0) (T := TX0) (N := 5) hx hb hts ni_X0_copyFrom_X0 hown hK hP u (rw_Book hu) rfl 2 (by decide) (hts _ nf_X0_copyFrom_f29) (fun _ h9 => h9) rfl dX0_copyFrom_18 ?_
  refine va_put (D := D) (ci := 0) (v := .int (st_i (st_si (st_si S (3 * j) (st_i S (3 * u))) (3 * j + 1) (st_i (st_si S (3 * j) (st_i S (3 * u))) (3 * u + 1))) (3 * u + 2))) (ty := .int) (C := RX0) (T := TX0) (N := 5) hx hb hts ni_X0_copyFrom_X0 tyX0 tyX0_ok nmX0 hown hK hP hD hS j (rw_Book hj) rfl 2 (by decide) (hts _ nf_X0_copyFrom_f29) (fun _ h9 => h9) rfl (by decide +kernel) rfl rfl (Nat.le_of_ble_eq_true rfl) dX0_copyFrom_21 (fun H locs hP hD hS => ?_)
  have hP := st_ps (rw_s_Book_sales hj) hP
  have hD := st_ds (rw_s_Book_sales hj) hD
  refine lv_aload_n hx hb dX0_copyFrom_24 rfl (lv_at hl 1 rfl) ?_
  refine va_get (D := D) (ci := 0) (v := .ref (ad (23 + 2 * u))) (C := RX0) (T := TX0) (N := 5) hx hb hts ni_X0_copyFrom_X0 hown hK hP u (rw_Book hu) rfl 3 (by decide) (hts _ nf_X0_copyFrom_f9) (fun _ h9 => h9) rfl dX0_copyFrom_25 ?_
  refine lv_iconst (v := 0) hx hb dX0_copyFrom_28 (by decide) ?_
  refine lv_aload_n hx hb dX0_copyFrom_29 rfl (lv_at hl 0 rfl) ?_
  refine va_get (D := D) (ci := 0) (v := .ref (ad (23 + 2 * j))) (C := RX0) (T := TX0) (N := 5) hx hb hts ni_X0_copyFrom_X0 hown hK hP j (rw_Book hj) rfl 3 (by decide) (hts _ nf_X0_copyFrom_f9) (fun _ h9 => h9) rfl dX0_copyFrom_30 ?_
  refine lv_iconst (v := 0) hx hb dX0_copyFrom_33 (by decide) ?_
  refine lv_bipush (v := 8) hx hb dX0_copyFrom_34 (by decide) ?_
  refine va_copyi hx hb (by rw [hml]; exact hl.1.symm) hown (hts _ nf_X0_copyFrom_m32) (hts _ nf_X0_copyFrom_nac) (hts _ nf_X0_copyFrom_sac) (hts _ nf_X0_copyFrom_iSys) hK hP hD hS (23 + 2 * u) (23 + 2 * j) 0 0 (rw_weights hu) (rw_weights hj) rfl rfl rfl (by decide) (by decide) (by decide) (by decide) (by decide) (fun _ _ => rfl) (Nat.le_of_ble_eq_true rfl) (Nat.le_of_ble_eq_true rfl) dX0_copyFrom_36 (fun H locs hP hD hS => ?_)
  have hP := st_ps (rw_c_weights (h := u) hj) hP
  have hD := st_ds (rw_c_weights (h := u) hj) hD
  refine lv_aload_n hx hb dX0_copyFrom_39 rfl (lv_at hl 1 rfl) ?_
  refine va_get (D := D) (ci := 0) (v := .ref (ad (24 + 2 * u))) (C := RX0) (T := TX0) (N := 5) hx hb hts ni_X0_copyFrom_X0 hown hK hP u (rw_Book hu) rfl 4 (by decide) (hts _ nf_X0_copyFrom_f15) (fun _ h9 => h9) rfl dX0_copyFrom_40 ?_
  refine lv_iconst (v := 0) hx hb dX0_copyFrom_43 (by decide) ?_
  refine lv_aload_n hx hb dX0_copyFrom_44 rfl (lv_at hl 0 rfl) ?_
  refine va_get (D := D) (ci := 0) (v := .ref (ad (24 + 2 * j))) (C := RX0) (T := TX0) (N := 5) hx hb hts ni_X0_copyFrom_X0 hown hK hP j (rw_Book hj) rfl 4 (by decide) (hts _ nf_X0_copyFrom_f15) (fun _ h9 => h9) rfl dX0_copyFrom_45 ?_
  refine lv_iconst (v := 0) hx hb dX0_copyFrom_48 (by decide) ?_
  refine lv_bipush (v := 48) hx hb dX0_copyFrom_49 (by decide) ?_
  refine va_copyi hx hb (by rw [hml]; exact hl.1.symm) hown (hts _ nf_X0_copyFrom_m32) (hts _ nf_X0_copyFrom_nac) (hts _ nf_X0_copyFrom_sac) (hts _ nf_X0_copyFrom_iSys) hK hP hD hS (24 + 2 * u) (24 + 2 * j) 0 0 (rw_levels hu) (rw_levels hj) rfl rfl rfl (by decide) (by decide) (by decide) (by decide) (by decide) (fun _ _ => rfl) (Nat.le_of_ble_eq_true rfl) (Nat.le_of_ble_eq_true rfl) dX0_copyFrom_51 (fun H locs hP hD hS => ?_)
  have hP := st_ps (rw_c_levels (h := u) hj) hP
  have hD := st_ds (rw_c_levels (h := u) hj) hD
  obtain rfl := ob_v h
  exact km_vret C hP hD hS dX0_copyFrom_54
def fX0_hasHome (j : Nat) (x1 : Int32) (S : RSt) : Option (Int32 × RSt) := (if x1 < 0 then (some ((0 : Int32), S)) else (if (st_i S (3 * j + 1)) ≤ x1 then (some ((0 : Int32), S)) else (some ((1 : Int32), S))))
abbrev rmX0_hasHome : Room := { frames := 0, cells := 0, slots := 0, locals := 0 }
theorem nf_X0_hasHome_f26 : Cond.fieldLink RX0 26 "RepeatIndex$Book" "homes" "I" ∈ wsX0_hasHome := by decide +kernel
theorem ni_X0_hasHome_X0 : ∀ w ∈ u_ws RX0 TX0 5, w ∈ wsX0_hasHome := by decide +kernel
set_option maxHeartbeats 4000000 in
set_option maxRecDepth 100000 in
theorem kX0_hasHome {l : Launch} {D : va_G} {cy : Nat → ClassId} {ad : Nat → Nat} {E : ke_T} (hEE : km_E E) {j : Nat} (hj : j < 13) {x1 : Int32} {S : RSt} {r : Int32} {S' : RSt} (h : fX0_hasHome j x1 S = some (r, S')) : km_z l D (rw_t cy) (rw_w cy ad) E yX0_hasHome wsX0_hasHome rmX0_hasHome [.ref (ad j), .int x1] S r S' := by
  refine km_z_in (cc := cX0_hasHome) (nL := 2) hEE (by decide) rfl (Nat.le_of_ble_eq_true rfl) ?_
  intro p e s m below meth c A H ls C hP hD hS hl
  have C : km_C p s m _ meth c cX0_hasHome 2 RX0 wsX0_hasHome (some .boolean) D (rw_t cy) E A := C
  obtain ⟨⟨hx, hb, hml, hown, hts⟩, hr, hlk, hK, hA, hE, hEE⟩ := id C
  have hl : lv_has ls 2 [(0, .ref (ad j)), (1, .int x1)] := hl
  unfold fX0_hasHome at h
  refine lv_iload_n hx hb dX0_hasHome_0 rfl (lv_at hl 1 rfl) ?_
  refine lv_if_lt (tgt := 16) hx hb dX0_hasHome_1 (by decide) (fun c_1 => ?_) (fun c_1 => ?_)
  · have h := ob_t c_1 h
    refine lv_iconst (v := 0) hx hb dX0_hasHome_16 (by decide) ?_
    obtain ⟨rfl, rfl⟩ := ob_w h
    exact km_zret C (by decide) hP hD hS dX0_hasHome_17
  · have h := ob_f c_1 h
    refine lv_iload_n hx hb dX0_hasHome_4 rfl (lv_at hl 1 rfl) ?_
    refine lv_aload_n hx hb dX0_hasHome_5 rfl (lv_at hl 0 rfl) ?_
    refine va_get (D := D) (ci := 0) (v := .int (st_i S (3 * j + 1))) (C := RX0) (T := TX0) (N := 5) hx hb hts ni_X0_hasHome_X0 hown hK hP j (rw_Book hj) rfl 1 (by decide) (hts _ nf_X0_hasHome_f26) (fun _ h9 => h9) rfl dX0_hasHome_6 ?_
    refine lv_icmp_ge (tgt := 16) hx hb dX0_hasHome_9 (by decide) (fun c_2 => ?_) (fun c_2 => ?_)
    · have h := ob_t c_2 h
      refine lv_iconst (v := 0) hx hb dX0_hasHome_16 (by decide) ?_
      obtain ⟨rfl, rfl⟩ := ob_w h
      exact km_zret C (by decide) hP hD hS dX0_hasHome_17
    · have h := ob_f c_2 h
      refine lv_iconst (v := 1) hx hb dX0_hasHome_12 (by decide) ?_
      refine lv_goto (tgt := 17) hx hb dX0_hasHome_13 (by decide) ?_
      obtain ⟨rfl, rfl⟩ := ob_w h
      exact km_zret C (by decide) hP hD hS dX0_hasHome_17
def fX0_hasMonth (j : Nat) (x1 : Int32) (S : RSt) : Option (Int32 × RSt) := (if x1 < 0 then (some ((0 : Int32), S)) else (if (st_i S (3 * j)) ≤ x1 then (some ((0 : Int32), S)) else (some ((1 : Int32), S))))
abbrev rmX0_hasMonth : Room := { frames := 0, cells := 0, slots := 0, locals := 0 }
theorem nf_X0_hasMonth_f22 : Cond.fieldLink RX0 22 "RepeatIndex$Book" "months" "I" ∈ wsX0_hasMonth := by decide +kernel
theorem ni_X0_hasMonth_X0 : ∀ w ∈ u_ws RX0 TX0 5, w ∈ wsX0_hasMonth := by decide +kernel
set_option maxHeartbeats 4000000 in
set_option maxRecDepth 100000 in
theorem kX0_hasMonth {l : Launch} {D : va_G} {cy : Nat → ClassId} {ad : Nat → Nat} {E : ke_T} (hEE : km_E E) {j : Nat} (hj : j < 13) {x1 : Int32} {S : RSt} {r : Int32} {S' : RSt} (h : fX0_hasMonth j x1 S = some (r, S')) : km_z l D (rw_t cy) (rw_w cy ad) E yX0_hasMonth wsX0_hasMonth rmX0_hasMonth [.ref (ad j), .int x1] S r S' := by
  refine km_z_in (cc := cX0_hasMonth) (nL := 2) hEE (by decide) rfl (Nat.le_of_ble_eq_true rfl) ?_
  intro p e s m below meth c A H ls C hP hD hS hl
  have C : km_C p s m _ meth c cX0_hasMonth 2 RX0 wsX0_hasMonth (some .boolean) D (rw_t cy) E A := C
  obtain ⟨⟨hx, hb, hml, hown, hts⟩, hr, hlk, hK, hA, hE, hEE⟩ := id C
  have hl : lv_has ls 2 [(0, .ref (ad j)), (1, .int x1)] := hl
  unfold fX0_hasMonth at h
  refine lv_iload_n hx hb dX0_hasMonth_0 rfl (lv_at hl 1 rfl) ?_
  refine lv_if_lt (tgt := 16) hx hb dX0_hasMonth_1 (by decide) (fun c_1 => ?_) (fun c_1 => ?_)
  · have h := ob_t c_1 h
    refine lv_iconst (v := 0) hx hb dX0_hasMonth_16 (by decide) ?_
    obtain ⟨rfl, rfl⟩ := ob_w h
    exact km_zret C (by decide) hP hD hS dX0_hasMonth_17
  · have h := ob_f c_1 h
    refine lv_iload_n hx hb dX0_hasMonth_4 rfl (lv_at hl 1 rfl) ?_
    refine lv_aload_n hx hb dX0_hasMonth_5 rfl (lv_at hl 0 rfl) ?_
    refine va_get (D := D) (ci := 0) (v := .int (st_i S (3 * j))) (C := RX0) (T := TX0) (N := 5) hx hb hts ni_X0_hasMonth_X0 hown hK hP j (rw_Book hj) rfl 0 (by decide) (hts _ nf_X0_hasMonth_f22) (fun _ h9 => h9) rfl dX0_hasMonth_6 ?_
    refine lv_icmp_ge (tgt := 16) hx hb dX0_hasMonth_9 (by decide) (fun c_2 => ?_) (fun c_2 => ?_)
    · have h := ob_t c_2 h
      refine lv_iconst (v := 0) hx hb dX0_hasMonth_16 (by decide) ?_
      obtain ⟨rfl, rfl⟩ := ob_w h
      exact km_zret C (by decide) hP hD hS dX0_hasMonth_17
    · have h := ob_f c_2 h
      refine lv_iconst (v := 1) hx hb dX0_hasMonth_12 (by decide) ?_
      refine lv_goto (tgt := 17) hx hb dX0_hasMonth_13 (by decide) ?_
      obtain ⟨rfl, rfl⟩ := ob_w h
      exact km_zret C (by decide) hP hD hS dX0_hasMonth_17
def fX0_hasGap (j : Nat) (x1 : Int32) (S : RSt) : Option (Int32 × RSt) := (if x1 < (1 : Int32) then (some ((0 : Int32), S)) else (if (st_i S (3 * j)) ≤ x1 then (some ((0 : Int32), S)) else (some ((1 : Int32), S))))
abbrev rmX0_hasGap : Room := { frames := 0, cells := 0, slots := 0, locals := 0 }
theorem nf_X0_hasGap_f22 : Cond.fieldLink RX0 22 "RepeatIndex$Book" "months" "I" ∈ wsX0_hasGap := by decide +kernel
theorem ni_X0_hasGap_X0 : ∀ w ∈ u_ws RX0 TX0 5, w ∈ wsX0_hasGap := by decide +kernel
set_option maxHeartbeats 4000000 in
set_option maxRecDepth 100000 in
theorem kX0_hasGap {l : Launch} {D : va_G} {cy : Nat → ClassId} {ad : Nat → Nat} {E : ke_T} (hEE : km_E E) {j : Nat} (hj : j < 13) {x1 : Int32} {S : RSt} {r : Int32} {S' : RSt} (h : fX0_hasGap j x1 S = some (r, S')) : km_z l D (rw_t cy) (rw_w cy ad) E yX0_hasGap wsX0_hasGap rmX0_hasGap [.ref (ad j), .int x1] S r S' := by
  refine km_z_in (cc := cX0_hasGap) (nL := 2) hEE (by decide) rfl (Nat.le_of_ble_eq_true rfl) ?_
  intro p e s m below meth c A H ls C hP hD hS hl
  have C : km_C p s m _ meth c cX0_hasGap 2 RX0 wsX0_hasGap (some .boolean) D (rw_t cy) E A := C
  obtain ⟨⟨hx, hb, hml, hown, hts⟩, hr, hlk, hK, hA, hE, hEE⟩ := id C
  have hl : lv_has ls 2 [(0, .ref (ad j)), (1, .int x1)] := hl
  unfold fX0_hasGap at h
  refine lv_iload_n hx hb dX0_hasGap_0 rfl (lv_at hl 1 rfl) ?_
  refine lv_iconst (v := 1) hx hb dX0_hasGap_1 (by decide) ?_
  refine lv_icmp_lt (tgt := 17) hx hb dX0_hasGap_2 (by decide) (fun c_1 => ?_) (fun c_1 => ?_)
  · have h := ob_t c_1 h
    refine lv_iconst (v := 0) hx hb dX0_hasGap_17 (by decide) ?_
    obtain ⟨rfl, rfl⟩ := ob_w h
    exact km_zret C (by decide) hP hD hS dX0_hasGap_18
  · have h := ob_f c_1 h
    refine lv_iload_n hx hb dX0_hasGap_5 rfl (lv_at hl 1 rfl) ?_
    refine lv_aload_n hx hb dX0_hasGap_6 rfl (lv_at hl 0 rfl) ?_
    refine va_get (D := D) (ci := 0) (v := .int (st_i S (3 * j))) (C := RX0) (T := TX0) (N := 5) hx hb hts ni_X0_hasGap_X0 hown hK hP j (rw_Book hj) rfl 0 (by decide) (hts _ nf_X0_hasGap_f22) (fun _ h9 => h9) rfl dX0_hasGap_7 ?_
    refine lv_icmp_ge (tgt := 17) hx hb dX0_hasGap_10 (by decide) (fun c_2 => ?_) (fun c_2 => ?_)
    · have h := ob_t c_2 h
      refine lv_iconst (v := 0) hx hb dX0_hasGap_17 (by decide) ?_
      obtain ⟨rfl, rfl⟩ := ob_w h
      exact km_zret C (by decide) hP hD hS dX0_hasGap_18
    · have h := ob_f c_2 h
      refine lv_iconst (v := 1) hx hb dX0_hasGap_13 (by decide) ?_
      refine lv_goto (tgt := 18) hx hb dX0_hasGap_14 (by decide) ?_
      obtain ⟨rfl, rfl⟩ := ob_w h
      exact km_zret C (by decide) hP hD hS dX0_hasGap_18
def fX0_levelAt (j : Nat) (x1 : Int32) (x2 : Int32) (S : RSt) : Option (Int32 × RSt) := (ob_2 (fX0_hasHome j x1 S) fun r_2 S_3 => (if r_2 = 0 then (some ((-1 : Int32), S_3)) else (ob_2 (fX0_hasMonth j x2 S_3) fun r_7 S_8 => (if r_7 = 0 then (some ((-1 : Int32), S_8)) else (ob_in ((x1 * (8 : Int32)) + x2) 48 (some (st_a S_8 (2 * j + 1) ((x1 * (8 : Int32)) + x2).toNatClampNeg, S_8)))))))
abbrev rmX0_levelAt : Room := { frames := 1, cells := 0, slots := 0, locals := 21 }
theorem nf_X0_levelAt_f15 : Cond.fieldLink RX0 15 "RepeatIndex$Book" "levels" "[I" ∈ wsX0_levelAt := by decide +kernel
theorem ni_X0_levelAt_X0 : ∀ w ∈ u_ws RX0 TX0 5, w ∈ wsX0_levelAt := by decide +kernel
set_option maxHeartbeats 4000000 in
set_option maxRecDepth 100000 in
theorem kX0_levelAt {l : Launch} {D : va_G} {cy : Nat → ClassId} {ad : Nat → Nat} {E : ke_T} (hEE : km_E E) {j : Nat} (hj : j < 13) {x1 : Int32} {x2 : Int32} {S : RSt} {r : Int32} {S' : RSt} (h : fX0_levelAt j x1 x2 S = some (r, S')) : km_i l D (rw_t cy) (rw_w cy ad) E yX0_levelAt wsX0_levelAt rmX0_levelAt [.ref (ad j), .int x1, .int x2] S r S' := by
  refine km_i_in (cc := cX0_levelAt) (nL := 3) hEE (by decide) rfl (Nat.le_of_ble_eq_true rfl) ?_
  intro p e s m below meth c A H ls C hP hD hS hl
  have C : km_C p s m _ meth c cX0_levelAt 3 RX0 wsX0_levelAt (some .int) D (rw_t cy) E A := C
  obtain ⟨⟨hx, hb, hml, hown, hts⟩, hr, hlk, hK, hA, hE, hEE⟩ := id C
  have hl : lv_has ls 3 [(0, .ref (ad j)), (1, .int x1), (2, .int x2)] := hl
  unfold fX0_levelAt at h
  refine lv_aload_n hx hb dX0_levelAt_0 rfl (lv_at hl 0 rfl) ?_
  refine lv_iload_n hx hb dX0_levelAt_1 rfl (lv_at hl 1 rfl) ?_
  obtain ⟨r_2, S_3, hc_1, h⟩ := ob_2s h
  refine km_cVz (As := [.int x1]) (rest := []) C (kX0_hasHome hEE hj hc_1) (cwV 1 hts gX0_levelAt_X0_hasHome rfl rfl rfl (by decide +kernel) ⟨(Nat.le_of_ble_eq_true rfl), (Nat.le_of_ble_eq_true rfl)⟩) (rw_Book hj) rfl rfl rfl hP hD hS hl.1 rfl (Nat.le_of_ble_eq_true rfl) dX0_levelAt_2 (fun H locs hP hD hS hz_4 => ?_)
  refine lv_if_eq (tgt := 16) hx hb dX0_levelAt_5 (by decide) (fun c_5 => ?_) (fun c_5 => ?_)
  · have h := ob_t c_5 h
    refine lv_iconst (v := -1) hx hb dX0_levelAt_16 (by decide) ?_
    obtain ⟨rfl, rfl⟩ := ob_w h
    exact km_iret C hP hD hS dX0_levelAt_17
  · have h := ob_f c_5 h
    refine lv_aload_n hx hb dX0_levelAt_8 rfl (lv_at hl 0 rfl) ?_
    refine lv_iload_n hx hb dX0_levelAt_9 rfl (lv_at hl 2 rfl) ?_
    obtain ⟨r_7, S_8, hc_6, h⟩ := ob_2s h
    refine km_cVz (As := [.int x2]) (rest := []) C (kX0_hasMonth hEE hj hc_6) (cwV 1 hts gX0_levelAt_X0_hasMonth rfl rfl rfl (by decide +kernel) ⟨(Nat.le_of_ble_eq_true rfl), (Nat.le_of_ble_eq_true rfl)⟩) (rw_Book hj) rfl rfl rfl hP hD hS hl.1 rfl (Nat.le_of_ble_eq_true rfl) dX0_levelAt_10 (fun H locs hP hD hS hz_9 => ?_)
    refine lv_if_ne (tgt := 18) hx hb dX0_levelAt_13 (by decide) (fun c_10 => ?_) (fun c_10 => ?_)
    · have h := ob_f c_10 h
      refine lv_aload_n hx hb dX0_levelAt_18 rfl (lv_at hl 0 rfl) ?_
      refine va_get (D := D) (ci := 0) (v := .ref (ad (24 + 2 * j))) (C := RX0) (T := TX0) (N := 5) hx hb hts ni_X0_levelAt_X0 hown hK hP j (rw_Book hj) rfl 4 (by decide) (hts _ nf_X0_levelAt_f15) (fun _ h9 => h9) rfl dX0_levelAt_19 ?_
      refine lv_iload_n hx hb dX0_levelAt_22 rfl (lv_at hl 1 rfl) ?_
      refine lv_bipush (v := 8) hx hb dX0_levelAt_23 (by decide) ?_
      refine lv_imul hx hb dX0_levelAt_25 ?_
      refine lv_iload_n hx hb dX0_levelAt_26 rfl (lv_at hl 2 rfl) ?_
      refine lv_iadd hx hb dX0_levelAt_27 ?_
      obtain ⟨hv_11, h⟩ := ob_in_s h
      refine va_iald hx hb hK hP (24 + 2 * j) 0 (rw_levels hj) rfl hv_11 dX0_levelAt_28 ?_
      obtain ⟨rfl, rfl⟩ := ob_w h
      exact km_iret C hP hD hS dX0_levelAt_29
    · have h := ob_t c_10 h
      refine lv_iconst (v := -1) hx hb dX0_levelAt_16 (by decide) ?_
      obtain ⟨rfl, rfl⟩ := ob_w h
      exact km_iret C hP hD hS dX0_levelAt_17
def fX0_canTake (j : Nat) (x1 : Int32) (x2 : Int32) (x3 : Int32) (S : RSt) : Option (Int32 × RSt) := (ob_2 (fX0_hasHome j x1 S) fun r_2 S_3 => (if r_2 = 0 then (some ((0 : Int32), S_3)) else (ob_2 (fX0_hasMonth j x2 S_3) fun r_7 S_8 => (if r_7 = 0 then (some ((0 : Int32), S_8)) else (ob_in ((x1 * (8 : Int32)) + x2) 48 (if (st_a S_8 (2 * j + 1) ((x1 * (8 : Int32)) + x2).toNatClampNeg) = (-1 : Int32) then (if x3 < 0 then (some ((0 : Int32), S_8)) else (if (999 : Int32) < x3 then (some ((0 : Int32), S_8)) else (some ((1 : Int32), S_8)))) else (some ((0 : Int32), S_8))))))))
abbrev rmX0_canTake : Room := { frames := 1, cells := 0, slots := 0, locals := 21 }
theorem nf_X0_canTake_f15 : Cond.fieldLink RX0 15 "RepeatIndex$Book" "levels" "[I" ∈ wsX0_canTake := by decide +kernel
theorem ni_X0_canTake_X0 : ∀ w ∈ u_ws RX0 TX0 5, w ∈ wsX0_canTake := by decide +kernel
set_option maxHeartbeats 4000000 in
set_option maxRecDepth 100000 in
theorem kX0_canTake {l : Launch} {D : va_G} {cy : Nat → ClassId} {ad : Nat → Nat} {E : ke_T} (hEE : km_E E) {j : Nat} (hj : j < 13) {x1 : Int32} {x2 : Int32} {x3 : Int32} {S : RSt} {r : Int32} {S' : RSt} (h : fX0_canTake j x1 x2 x3 S = some (r, S')) : km_z l D (rw_t cy) (rw_w cy ad) E yX0_canTake wsX0_canTake rmX0_canTake [.ref (ad j), .int x1, .int x2, .int x3] S r S' := by
  refine km_z_in (cc := cX0_canTake) (nL := 4) hEE (by decide) rfl (Nat.le_of_ble_eq_true rfl) ?_
  intro p e s m below meth c A H ls C hP hD hS hl
  have C : km_C p s m _ meth c cX0_canTake 4 RX0 wsX0_canTake (some .boolean) D (rw_t cy) E A := C
  obtain ⟨⟨hx, hb, hml, hown, hts⟩, hr, hlk, hK, hA, hE, hEE⟩ := id C
  have hl : lv_has ls 4 [(0, .ref (ad j)), (1, .int x1), (2, .int x2), (3, .int x3)] := hl
  unfold fX0_canTake at h
  refine lv_aload_n hx hb dX0_canTake_0 rfl (lv_at hl 0 rfl) ?_
  refine lv_iload_n hx hb dX0_canTake_1 rfl (lv_at hl 1 rfl) ?_
  obtain ⟨r_2, S_3, hc_1, h⟩ := ob_2s h
  refine km_cVz (As := [.int x1]) (rest := []) C (kX0_hasHome hEE hj hc_1) (cwV 1 hts gX0_canTake_X0_hasHome rfl rfl rfl (by decide +kernel) ⟨(Nat.le_of_ble_eq_true rfl), (Nat.le_of_ble_eq_true rfl)⟩) (rw_Book hj) rfl rfl rfl hP hD hS hl.1 rfl (Nat.le_of_ble_eq_true rfl) dX0_canTake_2 (fun H locs hP hD hS hz_4 => ?_)
  refine lv_if_eq (tgt := 46) hx hb dX0_canTake_5 (by decide) (fun c_5 => ?_) (fun c_5 => ?_)
  · have h := ob_t c_5 h
    refine lv_iconst (v := 0) hx hb dX0_canTake_46 (by decide) ?_
    obtain ⟨rfl, rfl⟩ := ob_w h
    exact km_zret C (by decide) hP hD hS dX0_canTake_47
  · have h := ob_f c_5 h
    refine lv_aload_n hx hb dX0_canTake_8 rfl (lv_at hl 0 rfl) ?_
    refine lv_iload_n hx hb dX0_canTake_9 rfl (lv_at hl 2 rfl) ?_
    obtain ⟨r_7, S_8, hc_6, h⟩ := ob_2s h
    refine km_cVz (As := [.int x2]) (rest := []) C (kX0_hasMonth hEE hj hc_6) (cwV 1 hts gX0_canTake_X0_hasMonth rfl rfl rfl (by decide +kernel) ⟨(Nat.le_of_ble_eq_true rfl), (Nat.le_of_ble_eq_true rfl)⟩) (rw_Book hj) rfl rfl rfl hP hD hS hl.1 rfl (Nat.le_of_ble_eq_true rfl) dX0_canTake_10 (fun H locs hP hD hS hz_9 => ?_)
    refine lv_if_eq (tgt := 46) hx hb dX0_canTake_13 (by decide) (fun c_10 => ?_) (fun c_10 => ?_)
    · have h := ob_t c_10 h
      refine lv_iconst (v := 0) hx hb dX0_canTake_46 (by decide) ?_
      obtain ⟨rfl, rfl⟩ := ob_w h
      exact km_zret C (by decide) hP hD hS dX0_canTake_47
    · have h := ob_f c_10 h
      refine lv_aload_n hx hb dX0_canTake_16 rfl (lv_at hl 0 rfl) ?_
      refine va_get (D := D) (ci := 0) (v := .ref (ad (24 + 2 * j))) (C := RX0) (T := TX0) (N := 5) hx hb hts ni_X0_canTake_X0 hown hK hP j (rw_Book hj) rfl 4 (by decide) (hts _ nf_X0_canTake_f15) (fun _ h9 => h9) rfl dX0_canTake_17 ?_
      refine lv_iload_n hx hb dX0_canTake_20 rfl (lv_at hl 1 rfl) ?_
      refine lv_bipush (v := 8) hx hb dX0_canTake_21 (by decide) ?_
      refine lv_imul hx hb dX0_canTake_23 ?_
      refine lv_iload_n hx hb dX0_canTake_24 rfl (lv_at hl 2 rfl) ?_
      refine lv_iadd hx hb dX0_canTake_25 ?_
      obtain ⟨hv_11, h⟩ := ob_in_s h
      refine va_iald hx hb hK hP (24 + 2 * j) 0 (rw_levels hj) rfl hv_11 dX0_canTake_26 ?_
      refine lv_iconst (v := -1) hx hb dX0_canTake_27 (by decide) ?_
      refine lv_icmp_ne (tgt := 46) hx hb dX0_canTake_28 (by decide) (fun c_12 => ?_) (fun c_12 => ?_)
      · have h := ob_f c_12 h
        refine lv_iconst (v := 0) hx hb dX0_canTake_46 (by decide) ?_
        obtain ⟨rfl, rfl⟩ := ob_w h
        exact km_zret C (by decide) hP hD hS dX0_canTake_47
      · have h := ob_t c_12 h
        refine lv_iload_n hx hb dX0_canTake_31 rfl (lv_at hl 3 rfl) ?_
        refine lv_if_lt (tgt := 46) hx hb dX0_canTake_32 (by decide) (fun c_13 => ?_) (fun c_13 => ?_)
        · have h := ob_t c_13 h
          refine lv_iconst (v := 0) hx hb dX0_canTake_46 (by decide) ?_
          obtain ⟨rfl, rfl⟩ := ob_w h
          exact km_zret C (by decide) hP hD hS dX0_canTake_47
        · have h := ob_f c_13 h
          refine lv_iload_n hx hb dX0_canTake_35 rfl (lv_at hl 3 rfl) ?_
          refine lv_sipush (v := 999) hx hb dX0_canTake_36 (by decide) ?_
          refine lv_icmp_gt (tgt := 46) hx hb dX0_canTake_39 (by decide) (fun c_14 => ?_) (fun c_14 => ?_)
          · have h := ob_t c_14 h
            refine lv_iconst (v := 0) hx hb dX0_canTake_46 (by decide) ?_
            obtain ⟨rfl, rfl⟩ := ob_w h
            exact km_zret C (by decide) hP hD hS dX0_canTake_47
          · have h := ob_f c_14 h
            refine lv_iconst (v := 1) hx hb dX0_canTake_42 (by decide) ?_
            refine lv_goto (tgt := 47) hx hb dX0_canTake_43 (by decide) ?_
            obtain ⟨rfl, rfl⟩ := ob_w h
            exact km_zret C (by decide) hP hD hS dX0_canTake_47
def fX0_addHome (j : Nat) (S : RSt) : Option (Int32 × RSt) := (some ((st_i (st_si S (3 * j + 1) ((st_i S (3 * j + 1)) + (1 : Int32))) (3 * j + 1)) - (1 : Int32), (st_si S (3 * j + 1) ((st_i S (3 * j + 1)) + (1 : Int32)))))
abbrev rmX0_addHome : Room := { frames := 0, cells := 0, slots := 0, locals := 0 }
theorem nf_X0_addHome_f26 : Cond.fieldLink RX0 26 "RepeatIndex$Book" "homes" "I" ∈ wsX0_addHome := by decide +kernel
theorem ni_X0_addHome_X0 : ∀ w ∈ u_ws RX0 TX0 5, w ∈ wsX0_addHome := by decide +kernel
set_option maxHeartbeats 4000000 in
set_option maxRecDepth 100000 in
theorem kX0_addHome {l : Launch} {D : va_G} {cy : Nat → ClassId} {ad : Nat → Nat} {E : ke_T} (hEE : km_E E) {j : Nat} (hj : j < 13) {S : RSt} {r : Int32} {S' : RSt} (h : fX0_addHome j S = some (r, S')) : km_i l D (rw_t cy) (rw_w cy ad) E yX0_addHome wsX0_addHome rmX0_addHome [.ref (ad j)] S r S' := by
  refine km_i_in (cc := cX0_addHome) (nL := 1) hEE (by decide) rfl (Nat.le_of_ble_eq_true rfl) ?_
  intro p e s m below meth c A H ls C hP hD hS hl
  have C : km_C p s m _ meth c cX0_addHome 1 RX0 wsX0_addHome (some .int) D (rw_t cy) E A := C
  obtain ⟨⟨hx, hb, hml, hown, hts⟩, hr, hlk, hK, hA, hE, hEE⟩ := id C
  have hl : lv_has ls 1 [(0, .ref (ad j))] := hl
  unfold fX0_addHome at h
  refine lv_aload_n hx hb dX0_addHome_0 rfl (lv_at hl 0 rfl) ?_
  refine lv_dup hx hb dX0_addHome_1 rfl ?_
  refine va_get (D := D) (ci := 0) (v := .int (st_i S (3 * j + 1))) (C := RX0) (T := TX0) (N := 5) hx hb hts ni_X0_addHome_X0 hown hK hP j (rw_Book hj) rfl 1 (by decide) (hts _ nf_X0_addHome_f26) (fun _ h9 => h9) rfl dX0_addHome_2 ?_
  refine lv_iconst (v := 1) hx hb dX0_addHome_5 (by decide) ?_
  refine lv_iadd hx hb dX0_addHome_6 ?_
  refine va_put (D := D) (ci := 0) (v := .int ((st_i S (3 * j + 1)) + (1 : Int32))) (ty := .int) (C := RX0) (T := TX0) (N := 5) hx hb hts ni_X0_addHome_X0 tyX0 tyX0_ok nmX0 hown hK hP hD hS j (rw_Book hj) rfl 1 (by decide) (hts _ nf_X0_addHome_f26) (fun _ h9 => h9) rfl (by decide +kernel) rfl rfl (Nat.le_of_ble_eq_true rfl) dX0_addHome_7 (fun H locs hP hD hS => ?_)
  have hP := st_ps (rw_s_Book_homes hj) hP
  have hD := st_ds (rw_s_Book_homes hj) hD
  refine lv_aload_n hx hb dX0_addHome_10 rfl (lv_at hl 0 rfl) ?_
  refine va_get (D := D) (ci := 0) (v := .int (st_i (st_si S (3 * j + 1) ((st_i S (3 * j + 1)) + (1 : Int32))) (3 * j + 1))) (C := RX0) (T := TX0) (N := 5) hx hb hts ni_X0_addHome_X0 hown hK hP j (rw_Book hj) rfl 1 (by decide) (hts _ nf_X0_addHome_f26) (fun _ h9 => h9) rfl dX0_addHome_11 ?_
  refine lv_iconst (v := 1) hx hb dX0_addHome_14 (by decide) ?_
  refine lv_isub hx hb dX0_addHome_15 ?_
  obtain ⟨rfl, rfl⟩ := ob_w h
  exact km_iret C hP hD hS dX0_addHome_16
def fX0_putSale (j : Nat) (x1 : Int32) (x2 : Int32) (x3 : Int32) (S : RSt) : Option (RSt) := (ob_2 (fX0_canTake j x1 x2 x3 S) fun r_2 S_3 => (if r_2 = 0 then (some S_3) else (ob_in ((x1 * (8 : Int32)) + x2) 48 (some (st_si (st_sa S_3 (2 * j + 1) ((x1 * (8 : Int32)) + x2).toNatClampNeg x3) (3 * j + 2) ((st_i (st_sa S_3 (2 * j + 1) ((x1 * (8 : Int32)) + x2).toNatClampNeg x3) (3 * j + 2)) + (1 : Int32)))))))
abbrev rmX0_putSale : Room := { frames := 2, cells := 0, slots := 0, locals := 44 }
theorem nf_X0_putSale_f15 : Cond.fieldLink RX0 15 "RepeatIndex$Book" "levels" "[I" ∈ wsX0_putSale := by decide +kernel
theorem ni_X0_putSale_X0 : ∀ w ∈ u_ws RX0 TX0 5, w ∈ wsX0_putSale := by decide +kernel
theorem nf_X0_putSale_f29 : Cond.fieldLink RX0 29 "RepeatIndex$Book" "sales" "I" ∈ wsX0_putSale := by decide +kernel
set_option maxHeartbeats 4000000 in
set_option maxRecDepth 100000 in
theorem kX0_putSale {l : Launch} {D : va_G} {cy : Nat → ClassId} {ad : Nat → Nat} {E : ke_T} (hEE : km_E E) {j : Nat} (hj : j < 13) {x1 : Int32} {x2 : Int32} {x3 : Int32} {S : RSt} {S' : RSt} (h : fX0_putSale j x1 x2 x3 S = some S') : km_v l D (rw_t cy) (rw_w cy ad) E yX0_putSale wsX0_putSale rmX0_putSale [.ref (ad j), .int x1, .int x2, .int x3] S S' := by
  refine km_v_in (cc := cX0_putSale) (nL := 4) hEE (by decide) rfl (Nat.le_of_ble_eq_true rfl) ?_
  intro p e s m below meth c A H ls C hP hD hS hl
  have C : km_C p s m _ meth c cX0_putSale 4 RX0 wsX0_putSale none D (rw_t cy) E A := C
  obtain ⟨⟨hx, hb, hml, hown, hts⟩, hr, hlk, hK, hA, hE, hEE⟩ := id C
  have hl : lv_has ls 4 [(0, .ref (ad j)), (1, .int x1), (2, .int x2), (3, .int x3)] := hl
  unfold fX0_putSale at h
  refine lv_aload_n hx hb dX0_putSale_0 rfl (lv_at hl 0 rfl) ?_
  refine lv_iload_n hx hb dX0_putSale_1 rfl (lv_at hl 1 rfl) ?_
  refine lv_iload_n hx hb dX0_putSale_2 rfl (lv_at hl 2 rfl) ?_
  refine lv_iload_n hx hb dX0_putSale_3 rfl (lv_at hl 3 rfl) ?_
  obtain ⟨r_2, S_3, hc_1, h⟩ := ob_2s h
  refine km_cVz (As := [.int x1, .int x2, .int x3]) (rest := []) C (kX0_canTake hEE hj hc_1) (cwV 3 hts gX0_putSale_X0_canTake rfl rfl rfl (by decide +kernel) ⟨(Nat.le_of_ble_eq_true rfl), (Nat.le_of_ble_eq_true rfl)⟩) (rw_Book hj) rfl rfl rfl hP hD hS hl.1 rfl (Nat.le_of_ble_eq_true rfl) dX0_putSale_4 (fun H locs hP hD hS hz_4 => ?_)
  refine lv_if_eq (tgt := 32) hx hb dX0_putSale_7 (by decide) (fun c_5 => ?_) (fun c_5 => ?_)
  · have h := ob_t c_5 h
    obtain rfl := ob_v h
    exact km_vret C hP hD hS dX0_putSale_32
  · have h := ob_f c_5 h
    refine lv_aload_n hx hb dX0_putSale_10 rfl (lv_at hl 0 rfl) ?_
    refine va_get (D := D) (ci := 0) (v := .ref (ad (24 + 2 * j))) (C := RX0) (T := TX0) (N := 5) hx hb hts ni_X0_putSale_X0 hown hK hP j (rw_Book hj) rfl 4 (by decide) (hts _ nf_X0_putSale_f15) (fun _ h9 => h9) rfl dX0_putSale_11 ?_
    refine lv_iload_n hx hb dX0_putSale_14 rfl (lv_at hl 1 rfl) ?_
    refine lv_bipush (v := 8) hx hb dX0_putSale_15 (by decide) ?_
    refine lv_imul hx hb dX0_putSale_17 ?_
    refine lv_iload_n hx hb dX0_putSale_18 rfl (lv_at hl 2 rfl) ?_
    refine lv_iadd hx hb dX0_putSale_19 ?_
    refine lv_iload_n hx hb dX0_putSale_20 rfl (lv_at hl 3 rfl) ?_
    obtain ⟨hv_6, h⟩ := ob_in_s h
    refine va_iast hx hb hK hP hD hS (24 + 2 * j) 0 (rw_levels hj) rfl hv_6 dX0_putSale_21 (fun H locs hP hD hS => ?_)
    have hP := st_ps (rw_s_levels hj) hP
    have hD := st_ds (rw_s_levels hj) hD
    refine lv_aload_n hx hb dX0_putSale_22 rfl (lv_at hl 0 rfl) ?_
    refine lv_dup hx hb dX0_putSale_23 rfl ?_
    refine va_get (D := D) (ci := 0) (v := .int (st_i (st_sa S_3 (2 * j + 1) ((x1 * (8 : Int32)) + x2).toNatClampNeg x3) (3 * j + 2))) (C := RX0) (T := TX0) (N := 5) hx hb hts ni_X0_putSale_X0 hown hK hP j (rw_Book hj) rfl 2 (by decide) (hts _ nf_X0_putSale_f29) (fun _ h9 => h9) rfl dX0_putSale_24 ?_
    refine lv_iconst (v := 1) hx hb dX0_putSale_27 (by decide) ?_
    refine lv_iadd hx hb dX0_putSale_28 ?_
    refine va_put (D := D) (ci := 0) (v := .int ((st_i (st_sa S_3 (2 * j + 1) ((x1 * (8 : Int32)) + x2).toNatClampNeg x3) (3 * j + 2)) + (1 : Int32))) (ty := .int) (C := RX0) (T := TX0) (N := 5) hx hb hts ni_X0_putSale_X0 tyX0 tyX0_ok nmX0 hown hK hP hD hS j (rw_Book hj) rfl 2 (by decide) (hts _ nf_X0_putSale_f29) (fun _ h9 => h9) rfl (by decide +kernel) rfl rfl (Nat.le_of_ble_eq_true rfl) dX0_putSale_29 (fun H locs hP hD hS => ?_)
    have hP := st_ps (rw_s_Book_sales hj) hP
    have hD := st_ds (rw_s_Book_sales hj) hD
    obtain rfl := ob_v h
    exact km_vret C hP hD hS dX0_putSale_32
def fX0_takeSale (j : Nat) (x1 : Int32) (x2 : Int32) (S : RSt) : Option (RSt) := (ob_2 (fX0_levelAt j x1 x2 S) fun r_2 S_3 => (if r_2 = (-1 : Int32) then (some S_3) else (ob_in ((x1 * (8 : Int32)) + x2) 48 (some (st_si (st_sa S_3 (2 * j + 1) ((x1 * (8 : Int32)) + x2).toNatClampNeg (-1 : Int32)) (3 * j + 2) ((st_i (st_sa S_3 (2 * j + 1) ((x1 * (8 : Int32)) + x2).toNatClampNeg (-1 : Int32)) (3 * j + 2)) - (1 : Int32)))))))
abbrev rmX0_takeSale : Room := { frames := 2, cells := 0, slots := 0, locals := 43 }
theorem nf_X0_takeSale_f15 : Cond.fieldLink RX0 15 "RepeatIndex$Book" "levels" "[I" ∈ wsX0_takeSale := by decide +kernel
theorem ni_X0_takeSale_X0 : ∀ w ∈ u_ws RX0 TX0 5, w ∈ wsX0_takeSale := by decide +kernel
theorem nf_X0_takeSale_f29 : Cond.fieldLink RX0 29 "RepeatIndex$Book" "sales" "I" ∈ wsX0_takeSale := by decide +kernel
set_option maxHeartbeats 4000000 in
set_option maxRecDepth 100000 in
theorem kX0_takeSale {l : Launch} {D : va_G} {cy : Nat → ClassId} {ad : Nat → Nat} {E : ke_T} (hEE : km_E E) {j : Nat} (hj : j < 13) {x1 : Int32} {x2 : Int32} {S : RSt} {S' : RSt} (h : fX0_takeSale j x1 x2 S = some S') : km_v l D (rw_t cy) (rw_w cy ad) E yX0_takeSale wsX0_takeSale rmX0_takeSale [.ref (ad j), .int x1, .int x2] S S' := by
  refine km_v_in (cc := cX0_takeSale) (nL := 3) hEE (by decide) rfl (Nat.le_of_ble_eq_true rfl) ?_
  intro p e s m below meth c A H ls C hP hD hS hl
  have C : km_C p s m _ meth c cX0_takeSale 3 RX0 wsX0_takeSale none D (rw_t cy) E A := C
  obtain ⟨⟨hx, hb, hml, hown, hts⟩, hr, hlk, hK, hA, hE, hEE⟩ := id C
  have hl : lv_has ls 3 [(0, .ref (ad j)), (1, .int x1), (2, .int x2)] := hl
  unfold fX0_takeSale at h
  refine lv_aload_n hx hb dX0_takeSale_0 rfl (lv_at hl 0 rfl) ?_
  refine lv_iload_n hx hb dX0_takeSale_1 rfl (lv_at hl 1 rfl) ?_
  refine lv_iload_n hx hb dX0_takeSale_2 rfl (lv_at hl 2 rfl) ?_
  obtain ⟨r_2, S_3, hc_1, h⟩ := ob_2s h
  refine km_cVi (As := [.int x1, .int x2]) (rest := []) C (kX0_levelAt hEE hj hc_1) (cwV 2 hts gX0_takeSale_X0_levelAt rfl rfl rfl (by decide +kernel) ⟨(Nat.le_of_ble_eq_true rfl), (Nat.le_of_ble_eq_true rfl)⟩) (rw_Book hj) rfl rfl rfl hP hD hS hl.1 rfl (Nat.le_of_ble_eq_true rfl) dX0_takeSale_3 (fun H locs hP hD hS => ?_)
  refine lv_iconst (v := -1) hx hb dX0_takeSale_6 (by decide) ?_
  refine lv_icmp_eq (tgt := 32) hx hb dX0_takeSale_7 (by decide) (fun c_4 => ?_) (fun c_4 => ?_)
  · have h := ob_t c_4 h
    obtain rfl := ob_v h
    exact km_vret C hP hD hS dX0_takeSale_32
  · have h := ob_f c_4 h
    refine lv_aload_n hx hb dX0_takeSale_10 rfl (lv_at hl 0 rfl) ?_
    refine va_get (D := D) (ci := 0) (v := .ref (ad (24 + 2 * j))) (C := RX0) (T := TX0) (N := 5) hx hb hts ni_X0_takeSale_X0 hown hK hP j (rw_Book hj) rfl 4 (by decide) (hts _ nf_X0_takeSale_f15) (fun _ h9 => h9) rfl dX0_takeSale_11 ?_
    refine lv_iload_n hx hb dX0_takeSale_14 rfl (lv_at hl 1 rfl) ?_
    refine lv_bipush (v := 8) hx hb dX0_takeSale_15 (by decide) ?_
    refine lv_imul hx hb dX0_takeSale_17 ?_
    refine lv_iload_n hx hb dX0_takeSale_18 rfl (lv_at hl 2 rfl) ?_
    refine lv_iadd hx hb dX0_takeSale_19 ?_
    refine lv_iconst (v := -1) hx hb dX0_takeSale_20 (by decide) ?_
    obtain ⟨hv_5, h⟩ := ob_in_s h
    refine va_iast hx hb hK hP hD hS (24 + 2 * j) 0 (rw_levels hj) rfl hv_5 dX0_takeSale_21 (fun H locs hP hD hS => ?_)
    have hP := st_ps (rw_s_levels hj) hP
    have hD := st_ds (rw_s_levels hj) hD
    refine lv_aload_n hx hb dX0_takeSale_22 rfl (lv_at hl 0 rfl) ?_
    refine lv_dup hx hb dX0_takeSale_23 rfl ?_
    refine va_get (D := D) (ci := 0) (v := .int (st_i (st_sa S_3 (2 * j + 1) ((x1 * (8 : Int32)) + x2).toNatClampNeg (-1 : Int32)) (3 * j + 2))) (C := RX0) (T := TX0) (N := 5) hx hb hts ni_X0_takeSale_X0 hown hK hP j (rw_Book hj) rfl 2 (by decide) (hts _ nf_X0_takeSale_f29) (fun _ h9 => h9) rfl dX0_takeSale_24 ?_
    refine lv_iconst (v := 1) hx hb dX0_takeSale_27 (by decide) ?_
    refine lv_isub hx hb dX0_takeSale_28 ?_
    refine va_put (D := D) (ci := 0) (v := .int ((st_i (st_sa S_3 (2 * j + 1) ((x1 * (8 : Int32)) + x2).toNatClampNeg (-1 : Int32)) (3 * j + 2)) - (1 : Int32))) (ty := .int) (C := RX0) (T := TX0) (N := 5) hx hb hts ni_X0_takeSale_X0 tyX0 tyX0_ok nmX0 hown hK hP hD hS j (rw_Book hj) rfl 2 (by decide) (hts _ nf_X0_takeSale_f29) (fun _ h9 => h9) rfl (by decide +kernel) rfl rfl (Nat.le_of_ble_eq_true rfl) dX0_takeSale_29 (fun H locs hP hD hS => ?_)
    have hP := st_ps (rw_s_Book_sales hj) hP
    have hD := st_ds (rw_s_Book_sales hj) hD
    obtain rfl := ob_v h
    exact km_vret C hP hD hS dX0_takeSale_32
def fX0_clearHome_L2 (j : Nat) : Nat → Int32 → Int32 → RSt → Option (RSt)
  | 0, _, _, _ => none
  | n + 1, x1, x2, S => (if (st_i S (3 * j)) ≤ x2 then (some S) else (ob_1 (fX0_takeSale j x1 x2 S) fun S_4 => (fX0_clearHome_L2 j n x1 (x2 + (1 : Int32)) S_4)))
def fX0_clearHome (j : Nat) (x1 : Int32) (S : RSt) : Option (RSt) := (ob_1 (fX0_clearHome_L2 j 1000 x1 (0 : Int32) S) fun S_6 => (some S_6))
abbrev rmX0_clearHome : Room := { frames := 3, cells := 0, slots := 0, locals := 65 }
theorem nf_X0_clearHome_f22 : Cond.fieldLink RX0 22 "RepeatIndex$Book" "months" "I" ∈ wsX0_clearHome := by decide +kernel
theorem ni_X0_clearHome_X0 : ∀ w ∈ u_ws RX0 TX0 5, w ∈ wsX0_clearHome := by decide +kernel
set_option maxHeartbeats 4000000 in
set_option maxRecDepth 100000 in
theorem kX0_clearHome_L2 {l : Launch} {D : va_G} {cy : Nat → ClassId} {ad : Nat → Nat} {E : ke_T} {j : Nat} (hj : j < 13) {p : Program} {e : Env} {s : State} {m : MethodId} {args : Array Value} {below : List Frame} {meth : Method} {c : Code} {A : Nat → Prop} {Q : State → Prop} (C : km_C p s m args meth c cX0_clearHome 3 RX0 wsX0_clearHome none D (rw_t cy) E A) : ∀ (n : Nat) (x1 : Int32) (x2 : Int32) (S : RSt) (S' : RSt) (h : fX0_clearHome_L2 j n x1 x2 S = some S') {H : Heap} {locs : List Loc} {ls : Array Slot} (hP : va_P D vwCl ((rw_w cy ad) S) H) (hD : va_D A ((rw_w cy ad) S)) (hS : va_S A s.heap H locs) (hl : lv_has ls 3 [(0, .ref (ad j)), (1, .int x1), (2, .int x2)]) (kx0 : ∀ (H : Heap) (locs : List Loc) (ls : Array Slot), va_P D vwCl ((rw_w cy ad) S') H → va_D A ((rw_w cy ad) S') → va_S A s.heap H locs → lv_has ls 3 [] → W p l e rmX0_clearHome s m args below meth c H locs 0 0 Q (F0 m 22 ls [])), W p l e rmX0_clearHome s m args below meth c H locs 0 0 Q (F0 m 2 ls []) := by
  obtain ⟨⟨hx, hb, hml, hown, hts⟩, hr, hlk, hK, hA, hE, hEE⟩ := id C
  intro n
  induction n with
  | zero =>
    intro x1 x2 S S' h
    rw [fX0_clearHome_L2] at h
    cases h
  | succ n ih =>
    intro x1 x2 S S' h H locs ls hP hD hS hl kx0
    rw [fX0_clearHome_L2] at h
    refine lv_iload_n hx hb dX0_clearHome_2 rfl (lv_at hl 2 rfl) ?_
    refine lv_aload_n hx hb dX0_clearHome_3 rfl (lv_at hl 0 rfl) ?_
    refine va_get (D := D) (ci := 0) (v := .int (st_i S (3 * j))) (C := RX0) (T := TX0) (N := 5) hx hb hts ni_X0_clearHome_X0 hown hK hP j (rw_Book hj) rfl 0 (by decide) (hts _ nf_X0_clearHome_f22) (fun _ h9 => h9) rfl dX0_clearHome_4 ?_
    refine lv_icmp_ge (tgt := 22) hx hb dX0_clearHome_7 (by decide) (fun c_1 => ?_) (fun c_1 => ?_)
    · have h := ob_t c_1 h
      cases h
      exact kx0 _ _ _ hP hD hS (lv_sub hl [] rfl)
    · have h := ob_f c_1 h
      refine lv_aload_n hx hb dX0_clearHome_10 rfl (lv_at hl 0 rfl) ?_
      refine lv_iload_n hx hb dX0_clearHome_11 rfl (lv_at hl 1 rfl) ?_
      refine lv_iload_n hx hb dX0_clearHome_12 rfl (lv_at hl 2 rfl) ?_
      obtain ⟨S_4, hc_2, h⟩ := ob_1s h
      refine km_cVv (As := [.int x1, .int x2]) (rest := []) C (kX0_takeSale hEE hj hc_2) (cwV 2 hts gX0_clearHome_X0_takeSale rfl rfl rfl (by decide +kernel) ⟨(Nat.le_of_ble_eq_true rfl), (Nat.le_of_ble_eq_true rfl)⟩) (rw_Book hj) rfl rfl rfl hP hD hS hl.1 rfl (Nat.le_of_ble_eq_true rfl) dX0_clearHome_13 (fun H locs hP hD hS => ?_)
      refine lv_iinc (v := x2 + (1 : Int32)) (lv' := [(2, .int (x2 + (1 : Int32))), (0, .ref (ad j)), (1, .int x1)]) hx hb dX0_clearHome_16 hl (k := 2) rfl (congrArg (fun z => x2 + z) (by decide)) (by decide) rfl (fun ls hl => ?_)
      refine lv_goto (tgt := 2) hx hb dX0_clearHome_19 (by decide) ?_
      exact ih _ _ _ _ h hP hD hS (lv_sub hl [1, 2, 0] rfl) kx0
set_option maxHeartbeats 4000000 in
set_option maxRecDepth 100000 in
theorem kX0_clearHome {l : Launch} {D : va_G} {cy : Nat → ClassId} {ad : Nat → Nat} {E : ke_T} (hEE : km_E E) {j : Nat} (hj : j < 13) {x1 : Int32} {S : RSt} {S' : RSt} (h : fX0_clearHome j x1 S = some S') : km_v l D (rw_t cy) (rw_w cy ad) E yX0_clearHome wsX0_clearHome rmX0_clearHome [.ref (ad j), .int x1] S S' := by
  refine km_v_in (cc := cX0_clearHome) (nL := 3) hEE (by decide) rfl (Nat.le_of_ble_eq_true rfl) ?_
  intro p e s m below meth c A H ls C hP hD hS hl
  have C : km_C p s m _ meth c cX0_clearHome 3 RX0 wsX0_clearHome none D (rw_t cy) E A := C
  obtain ⟨⟨hx, hb, hml, hown, hts⟩, hr, hlk, hK, hA, hE, hEE⟩ := id C
  have hl : lv_has ls 3 [(0, .ref (ad j)), (1, .int x1)] := hl
  unfold fX0_clearHome at h
  refine lv_iconst (v := 0) hx hb dX0_clearHome_0 (by decide) ?_
  refine lv_istore_n (lv' := [(2, .int (0 : Int32)), (0, .ref (ad j)), (1, .int x1)]) hx hb dX0_clearHome_1 rfl hl (by decide) rfl (fun ls hl => ?_)
  obtain ⟨S_6, hq_5, h⟩ := ob_1s h
  refine kX0_clearHome_L2 hj C _ _ _ _ _ hq_5 hP hD hS (lv_sub hl [1, 2, 0] rfl) (fun H locs ls hP hD hS hl => ?_)
  obtain rfl := ob_v h
  exact km_vret C hP hD hS dX0_clearHome_22
def fX0_canMove_L2 (j : Nat) : Nat → Int32 → Int32 → Int32 → RSt → Option ((RSt) ⊕ ((RSt)))
  | 0, _, _, _, _ => none
  | n + 1, x1, x2, x3, S => (if (st_i S (3 * j)) ≤ x3 then (some (.inr S)) else (ob_2 (fX0_levelAt j x1 x3 S) fun r_3 S_4 => (if r_3 = (-1 : Int32) then (fX0_canMove_L2 j n x1 x2 (x3 + (1 : Int32)) S_4) else (if (r_3 + x2) < 0 then (some (.inl S_4)) else (if (r_3 + x2) ≤ (999 : Int32) then (fX0_canMove_L2 j n x1 x2 (x3 + (1 : Int32)) S_4) else (some (.inl S_4)))))))
def fX0_canMove (j : Nat) (x1 : Int32) (x2 : Int32) (S : RSt) : Option (Int32 × RSt) := (ob_1 (fX0_canMove_L2 j 1000 x1 x2 (0 : Int32) S) fun Z_10 => ob_s2 Z_10 (fun S_11 => (some ((0 : Int32), S_11))) (fun S_13 => (some ((1 : Int32), S_13))))
abbrev rmX0_canMove : Room := { frames := 2, cells := 0, slots := 0, locals := 43 }
theorem nf_X0_canMove_f22 : Cond.fieldLink RX0 22 "RepeatIndex$Book" "months" "I" ∈ wsX0_canMove := by decide +kernel
theorem ni_X0_canMove_X0 : ∀ w ∈ u_ws RX0 TX0 5, w ∈ wsX0_canMove := by decide +kernel
set_option maxHeartbeats 4000000 in
set_option maxRecDepth 100000 in
theorem kX0_canMove_L2 {l : Launch} {D : va_G} {cy : Nat → ClassId} {ad : Nat → Nat} {E : ke_T} {j : Nat} (hj : j < 13) {p : Program} {e : Env} {s : State} {m : MethodId} {args : Array Value} {below : List Frame} {meth : Method} {c : Code} {A : Nat → Prop} {Q : State → Prop} (C : km_C p s m args meth c cX0_canMove 5 RX0 wsX0_canMove (some .boolean) D (rw_t cy) E A) : ∀ (n : Nat) (x1 : Int32) (x2 : Int32) (x3 : Int32) (S : RSt) (Z : (RSt) ⊕ ((RSt))) (h : fX0_canMove_L2 j n x1 x2 x3 S = some Z) {H : Heap} {locs : List Loc} {ls : Array Slot} (hP : va_P D vwCl ((rw_w cy ad) S) H) (hD : va_D A ((rw_w cy ad) S)) (hS : va_S A s.heap H locs) (hl : lv_has ls 5 [(0, .ref (ad j)), (1, .int x1), (2, .int x2), (3, .int x3)]) (kx0 : ∀ (S' : RSt), Z = .inl S' → ∀ (H : Heap) (locs : List Loc) (ls : Array Slot), va_P D vwCl ((rw_w cy ad) S') H → va_D A ((rw_w cy ad) S') → va_S A s.heap H locs → lv_has ls 5 [] → W p l e rmX0_canMove s m args below meth c H locs 0 0 Q (F0 m 41 ls [])) (kx1 : ∀ (S' : RSt), Z = .inr S' → ∀ (H : Heap) (locs : List Loc) (ls : Array Slot), va_P D vwCl ((rw_w cy ad) S') H → va_D A ((rw_w cy ad) S') → va_S A s.heap H locs → lv_has ls 5 [] → W p l e rmX0_canMove s m args below meth c H locs 0 0 Q (F0 m 49 ls [])), W p l e rmX0_canMove s m args below meth c H locs 0 0 Q (F0 m 2 ls []) := by
  obtain ⟨⟨hx, hb, hml, hown, hts⟩, hr, hlk, hK, hA, hE, hEE⟩ := id C
  intro n
  induction n with
  | zero =>
    intro x1 x2 x3 S Z h
    rw [fX0_canMove_L2] at h
    cases h
  | succ n ih =>
    intro x1 x2 x3 S Z h H locs ls hP hD hS hl kx0 kx1
    rw [fX0_canMove_L2] at h
    refine lv_iload_n hx hb dX0_canMove_2 rfl (lv_at hl 3 rfl) ?_
    refine lv_aload_n hx hb dX0_canMove_3 rfl (lv_at hl 0 rfl) ?_
    refine va_get (D := D) (ci := 0) (v := .int (st_i S (3 * j))) (C := RX0) (T := TX0) (N := 5) hx hb hts ni_X0_canMove_X0 hown hK hP j (rw_Book hj) rfl 0 (by decide) (hts _ nf_X0_canMove_f22) (fun _ h9 => h9) rfl dX0_canMove_4 ?_
    refine lv_icmp_ge (tgt := 49) hx hb dX0_canMove_7 (by decide) (fun c_1 => ?_) (fun c_1 => ?_)
    · have h := ob_t c_1 h
      exact kx1 _ (ob_v h).symm _ _ _ hP hD hS (lv_sub hl [] rfl)
    · have h := ob_f c_1 h
      refine lv_aload_n hx hb dX0_canMove_10 rfl (lv_at hl 0 rfl) ?_
      refine lv_iload_n hx hb dX0_canMove_11 rfl (lv_at hl 1 rfl) ?_
      refine lv_iload_n hx hb dX0_canMove_12 rfl (lv_at hl 3 rfl) ?_
      obtain ⟨r_3, S_4, hc_2, h⟩ := ob_2s h
      refine km_cVi (As := [.int x1, .int x3]) (rest := []) C (kX0_levelAt hEE hj hc_2) (cwV 2 hts gX0_canMove_X0_levelAt rfl rfl rfl (by decide +kernel) ⟨(Nat.le_of_ble_eq_true rfl), (Nat.le_of_ble_eq_true rfl)⟩) (rw_Book hj) rfl rfl rfl hP hD hS hl.1 rfl (Nat.le_of_ble_eq_true rfl) dX0_canMove_13 (fun H locs hP hD hS => ?_)
      refine lv_istore (lv' := [(4, .int r_3), (0, .ref (ad j)), (1, .int x1), (2, .int x2), (3, .int x3)]) hx hb dX0_canMove_16 hl (by decide) rfl (fun ls hl => ?_)
      refine lv_iload hx hb dX0_canMove_18 (lv_at hl 0 rfl) ?_
      refine lv_iconst (v := -1) hx hb dX0_canMove_20 (by decide) ?_
      refine lv_icmp_eq (tgt := 43) hx hb dX0_canMove_21 (by decide) (fun c_5 => ?_) (fun c_5 => ?_)
      · have h := ob_t c_5 h
        refine lv_iinc (v := x3 + (1 : Int32)) (lv' := [(3, .int (x3 + (1 : Int32))), (4, .int r_3), (0, .ref (ad j)), (1, .int x1), (2, .int x2)]) hx hb dX0_canMove_43 hl (k := 4) rfl (congrArg (fun z => x3 + z) (by decide)) (by decide) rfl (fun ls hl => ?_)
        refine lv_goto (tgt := 2) hx hb dX0_canMove_46 (by decide) ?_
        exact ih _ _ _ _ _ h hP hD hS (lv_sub hl [2, 3, 4, 0] rfl) kx0 kx1
      · have h := ob_f c_5 h
        refine lv_iload hx hb dX0_canMove_24 (lv_at hl 0 rfl) ?_
        refine lv_iload_n hx hb dX0_canMove_26 rfl (lv_at hl 3 rfl) ?_
        refine lv_iadd hx hb dX0_canMove_27 ?_
        refine lv_if_lt (tgt := 41) hx hb dX0_canMove_28 (by decide) (fun c_6 => ?_) (fun c_6 => ?_)
        · have h := ob_t c_6 h
          exact kx0 _ (ob_v h).symm _ _ _ hP hD hS (lv_sub hl [] rfl)
        · have h := ob_f c_6 h
          refine lv_iload hx hb dX0_canMove_31 (lv_at hl 0 rfl) ?_
          refine lv_iload_n hx hb dX0_canMove_33 rfl (lv_at hl 3 rfl) ?_
          refine lv_iadd hx hb dX0_canMove_34 ?_
          refine lv_sipush (v := 999) hx hb dX0_canMove_35 (by decide) ?_
          refine lv_icmp_le (tgt := 43) hx hb dX0_canMove_38 (by decide) (fun c_7 => ?_) (fun c_7 => ?_)
          · have h := ob_t c_7 h
            refine lv_iinc (v := x3 + (1 : Int32)) (lv' := [(3, .int (x3 + (1 : Int32))), (4, .int r_3), (0, .ref (ad j)), (1, .int x1), (2, .int x2)]) hx hb dX0_canMove_43 hl (k := 4) rfl (congrArg (fun z => x3 + z) (by decide)) (by decide) rfl (fun ls hl => ?_)
            refine lv_goto (tgt := 2) hx hb dX0_canMove_46 (by decide) ?_
            exact ih _ _ _ _ _ h hP hD hS (lv_sub hl [2, 3, 4, 0] rfl) kx0 kx1
          · have h := ob_f c_7 h
            exact kx0 _ (ob_v h).symm _ _ _ hP hD hS (lv_sub hl [] rfl)
set_option maxHeartbeats 4000000 in
set_option maxRecDepth 100000 in
theorem kX0_canMove {l : Launch} {D : va_G} {cy : Nat → ClassId} {ad : Nat → Nat} {E : ke_T} (hEE : km_E E) {j : Nat} (hj : j < 13) {x1 : Int32} {x2 : Int32} {S : RSt} {r : Int32} {S' : RSt} (h : fX0_canMove j x1 x2 S = some (r, S')) : km_z l D (rw_t cy) (rw_w cy ad) E yX0_canMove wsX0_canMove rmX0_canMove [.ref (ad j), .int x1, .int x2] S r S' := by
  refine km_z_in (cc := cX0_canMove) (nL := 5) hEE (by decide) rfl (Nat.le_of_ble_eq_true rfl) ?_
  intro p e s m below meth c A H ls C hP hD hS hl
  have C : km_C p s m _ meth c cX0_canMove 5 RX0 wsX0_canMove (some .boolean) D (rw_t cy) E A := C
  obtain ⟨⟨hx, hb, hml, hown, hts⟩, hr, hlk, hK, hA, hE, hEE⟩ := id C
  have hl : lv_has ls 5 [(0, .ref (ad j)), (1, .int x1), (2, .int x2)] := hl
  unfold fX0_canMove at h
  refine lv_iconst (v := 0) hx hb dX0_canMove_0 (by decide) ?_
  refine lv_istore_n (lv' := [(3, .int (0 : Int32)), (0, .ref (ad j)), (1, .int x1), (2, .int x2)]) hx hb dX0_canMove_1 rfl hl (by decide) rfl (fun ls hl => ?_)
  obtain ⟨Z_10, hq_8, h⟩ := ob_1s h
  refine kX0_canMove_L2 hj C _ _ _ _ _ _ hq_8 hP hD hS (lv_sub hl [1, 2, 3, 0] rfl) (fun S_11 ee_12 H locs ls hP hD hS hl => ?_) (fun S_13 ee_14 H locs ls hP hD hS hl => ?_)
  · subst ee_12
    have h := ob_s2_0 h
    refine lv_iconst (v := 0) hx hb dX0_canMove_41 (by decide) ?_
    obtain ⟨rfl, rfl⟩ := ob_w h
    exact km_zret C (by decide) hP hD hS dX0_canMove_42
  · subst ee_14
    have h := ob_s2_1 h
    refine lv_iconst (v := 1) hx hb dX0_canMove_49 (by decide) ?_
    obtain ⟨rfl, rfl⟩ := ob_w h
    exact km_zret C (by decide) hP hD hS dX0_canMove_50
def fX0_moveLevels_L5 (j : Nat) : Nat → Int32 → Int32 → Int32 → Int32 → RSt → Option (Int32 × RSt)
  | 0, _, _, _, _, _ => none
  | n + 1, x1, x2, x3, x4, S => (if (st_i S (3 * j)) ≤ x4 then (some (x3, S)) else (ob_2 (fX0_levelAt j x1 x4 S) fun r_3 S_4 => (if r_3 = (-1 : Int32) then (fX0_moveLevels_L5 j n x1 x2 x3 (x4 + (1 : Int32)) S_4) else (ob_in ((x1 * (8 : Int32)) + x4) 48 (ob_in ((x1 * (8 : Int32)) + x4) 48 (fX0_moveLevels_L5 j n x1 x2 (x3 + (1 : Int32)) (x4 + (1 : Int32)) (st_sa S_4 (2 * j + 1) ((x1 * (8 : Int32)) + x4).toNatClampNeg ((st_a S_4 (2 * j + 1) ((x1 * (8 : Int32)) + x4).toNatClampNeg) + x2))))))))
def fX0_moveLevels (j : Nat) (x1 : Int32) (x2 : Int32) (S : RSt) : Option (Int32 × RSt) := (ob_2 (fX0_moveLevels_L5 j 1000 x1 x2 (0 : Int32) (0 : Int32) S) fun o_10 S_9 => (some (o_10, S_9)))
abbrev rmX0_moveLevels : Room := { frames := 2, cells := 0, slots := 0, locals := 43 }
theorem nf_X0_moveLevels_f22 : Cond.fieldLink RX0 22 "RepeatIndex$Book" "months" "I" ∈ wsX0_moveLevels := by decide +kernel
theorem ni_X0_moveLevels_X0 : ∀ w ∈ u_ws RX0 TX0 5, w ∈ wsX0_moveLevels := by decide +kernel
theorem nf_X0_moveLevels_f15 : Cond.fieldLink RX0 15 "RepeatIndex$Book" "levels" "[I" ∈ wsX0_moveLevels := by decide +kernel
set_option maxHeartbeats 4000000 in
set_option maxRecDepth 100000 in
theorem kX0_moveLevels_L5 {l : Launch} {D : va_G} {cy : Nat → ClassId} {ad : Nat → Nat} {E : ke_T} {j : Nat} (hj : j < 13) {p : Program} {e : Env} {s : State} {m : MethodId} {args : Array Value} {below : List Frame} {meth : Method} {c : Code} {A : Nat → Prop} {Q : State → Prop} (C : km_C p s m args meth c cX0_moveLevels 5 RX0 wsX0_moveLevels (some .int) D (rw_t cy) E A) : ∀ (n : Nat) (x1 : Int32) (x2 : Int32) (x3 : Int32) (x4 : Int32) (S : RSt) (o3 : Int32) (S' : RSt) (h : fX0_moveLevels_L5 j n x1 x2 x3 x4 S = some (o3, S')) {H : Heap} {locs : List Loc} {ls : Array Slot} (hP : va_P D vwCl ((rw_w cy ad) S) H) (hD : va_D A ((rw_w cy ad) S)) (hS : va_S A s.heap H locs) (hl : lv_has ls 5 [(0, .ref (ad j)), (1, .int x1), (2, .int x2), (3, .int x3), (4, .int x4)]) (kx0 : ∀ (H : Heap) (locs : List Loc) (ls : Array Slot), va_P D vwCl ((rw_w cy ad) S') H → va_D A ((rw_w cy ad) S') → va_S A s.heap H locs → lv_has ls 5 [(3, .int o3)] → W p l e rmX0_moveLevels s m args below meth c H locs 0 0 Q (F0 m 50 ls [])), W p l e rmX0_moveLevels s m args below meth c H locs 0 0 Q (F0 m 5 ls []) := by
  obtain ⟨⟨hx, hb, hml, hown, hts⟩, hr, hlk, hK, hA, hE, hEE⟩ := id C
  intro n
  induction n with
  | zero =>
    intro x1 x2 x3 x4 S o3 S' h
    rw [fX0_moveLevels_L5] at h
    cases h
  | succ n ih =>
    intro x1 x2 x3 x4 S o3 S' h H locs ls hP hD hS hl kx0
    rw [fX0_moveLevels_L5] at h
    refine lv_iload hx hb dX0_moveLevels_5 (lv_at hl 4 rfl) ?_
    refine lv_aload_n hx hb dX0_moveLevels_7 rfl (lv_at hl 0 rfl) ?_
    refine va_get (D := D) (ci := 0) (v := .int (st_i S (3 * j))) (C := RX0) (T := TX0) (N := 5) hx hb hts ni_X0_moveLevels_X0 hown hK hP j (rw_Book hj) rfl 0 (by decide) (hts _ nf_X0_moveLevels_f22) (fun _ h9 => h9) rfl dX0_moveLevels_8 ?_
    refine lv_icmp_ge (tgt := 50) hx hb dX0_moveLevels_11 (by decide) (fun c_1 => ?_) (fun c_1 => ?_)
    · have h := ob_t c_1 h
      cases h
      exact kx0 _ _ _ hP hD hS (lv_sub hl [3] rfl)
    · have h := ob_f c_1 h
      refine lv_aload_n hx hb dX0_moveLevels_14 rfl (lv_at hl 0 rfl) ?_
      refine lv_iload_n hx hb dX0_moveLevels_15 rfl (lv_at hl 1 rfl) ?_
      refine lv_iload hx hb dX0_moveLevels_16 (lv_at hl 4 rfl) ?_
      obtain ⟨r_3, S_4, hc_2, h⟩ := ob_2s h
      refine km_cVi (As := [.int x1, .int x4]) (rest := []) C (kX0_levelAt hEE hj hc_2) (cwV 2 hts gX0_moveLevels_X0_levelAt rfl rfl rfl (by decide +kernel) ⟨(Nat.le_of_ble_eq_true rfl), (Nat.le_of_ble_eq_true rfl)⟩) (rw_Book hj) rfl rfl rfl hP hD hS hl.1 rfl (Nat.le_of_ble_eq_true rfl) dX0_moveLevels_18 (fun H locs hP hD hS => ?_)
      refine lv_iconst (v := -1) hx hb dX0_moveLevels_21 (by decide) ?_
      refine lv_icmp_eq (tgt := 44) hx hb dX0_moveLevels_22 (by decide) (fun c_5 => ?_) (fun c_5 => ?_)
      · have h := ob_t c_5 h
        refine lv_iinc (v := x4 + (1 : Int32)) (lv' := [(4, .int (x4 + (1 : Int32))), (0, .ref (ad j)), (1, .int x1), (2, .int x2), (3, .int x3)]) hx hb dX0_moveLevels_44 hl (k := 4) rfl (congrArg (fun z => x4 + z) (by decide)) (by decide) rfl (fun ls hl => ?_)
        refine lv_goto (tgt := 5) hx hb dX0_moveLevels_47 (by decide) ?_
        exact ih _ _ _ _ _ _ _ h hP hD hS (lv_sub hl [1, 2, 3, 4, 0] rfl) kx0
      · have h := ob_f c_5 h
        refine lv_aload_n hx hb dX0_moveLevels_25 rfl (lv_at hl 0 rfl) ?_
        refine va_get (D := D) (ci := 0) (v := .ref (ad (24 + 2 * j))) (C := RX0) (T := TX0) (N := 5) hx hb hts ni_X0_moveLevels_X0 hown hK hP j (rw_Book hj) rfl 4 (by decide) (hts _ nf_X0_moveLevels_f15) (fun _ h9 => h9) rfl dX0_moveLevels_26 ?_
        refine lv_iload_n hx hb dX0_moveLevels_29 rfl (lv_at hl 1 rfl) ?_
        refine lv_bipush (v := 8) hx hb dX0_moveLevels_30 (by decide) ?_
        refine lv_imul hx hb dX0_moveLevels_32 ?_
        refine lv_iload hx hb dX0_moveLevels_33 (lv_at hl 4 rfl) ?_
        refine lv_iadd hx hb dX0_moveLevels_35 ?_
        refine lv_dup2_11 hx hb dX0_moveLevels_36 rfl rfl ?_
        obtain ⟨hv_6, h⟩ := ob_in_s h
        refine va_iald hx hb hK hP (24 + 2 * j) 0 (rw_levels hj) rfl hv_6 dX0_moveLevels_37 ?_
        refine lv_iload_n hx hb dX0_moveLevels_38 rfl (lv_at hl 2 rfl) ?_
        refine lv_iadd hx hb dX0_moveLevels_39 ?_
        obtain ⟨hv_7, h⟩ := ob_in_s h
        refine va_iast hx hb hK hP hD hS (24 + 2 * j) 0 (rw_levels hj) rfl hv_7 dX0_moveLevels_40 (fun H locs hP hD hS => ?_)
        have hP := st_ps (rw_s_levels hj) hP
        have hD := st_ds (rw_s_levels hj) hD
        refine lv_iinc (v := x3 + (1 : Int32)) (lv' := [(3, .int (x3 + (1 : Int32))), (0, .ref (ad j)), (1, .int x1), (2, .int x2), (4, .int x4)]) hx hb dX0_moveLevels_41 hl (k := 3) rfl (congrArg (fun z => x3 + z) (by decide)) (by decide) rfl (fun ls hl => ?_)
        refine lv_iinc (v := x4 + (1 : Int32)) (lv' := [(4, .int (x4 + (1 : Int32))), (3, .int (x3 + (1 : Int32))), (0, .ref (ad j)), (1, .int x1), (2, .int x2)]) hx hb dX0_moveLevels_44 hl (k := 4) rfl (congrArg (fun z => x4 + z) (by decide)) (by decide) rfl (fun ls hl => ?_)
        refine lv_goto (tgt := 5) hx hb dX0_moveLevels_47 (by decide) ?_
        exact ih _ _ _ _ _ _ _ h hP hD hS (lv_sub hl [2, 3, 4, 1, 0] rfl) kx0
set_option maxHeartbeats 4000000 in
set_option maxRecDepth 100000 in
theorem kX0_moveLevels {l : Launch} {D : va_G} {cy : Nat → ClassId} {ad : Nat → Nat} {E : ke_T} (hEE : km_E E) {j : Nat} (hj : j < 13) {x1 : Int32} {x2 : Int32} {S : RSt} {r : Int32} {S' : RSt} (h : fX0_moveLevels j x1 x2 S = some (r, S')) : km_i l D (rw_t cy) (rw_w cy ad) E yX0_moveLevels wsX0_moveLevels rmX0_moveLevels [.ref (ad j), .int x1, .int x2] S r S' := by
  refine km_i_in (cc := cX0_moveLevels) (nL := 5) hEE (by decide) rfl (Nat.le_of_ble_eq_true rfl) ?_
  intro p e s m below meth c A H ls C hP hD hS hl
  have C : km_C p s m _ meth c cX0_moveLevels 5 RX0 wsX0_moveLevels (some .int) D (rw_t cy) E A := C
  obtain ⟨⟨hx, hb, hml, hown, hts⟩, hr, hlk, hK, hA, hE, hEE⟩ := id C
  have hl : lv_has ls 5 [(0, .ref (ad j)), (1, .int x1), (2, .int x2)] := hl
  unfold fX0_moveLevels at h
  refine lv_iconst (v := 0) hx hb dX0_moveLevels_0 (by decide) ?_
  refine lv_istore_n (lv' := [(3, .int (0 : Int32)), (0, .ref (ad j)), (1, .int x1), (2, .int x2)]) hx hb dX0_moveLevels_1 rfl hl (by decide) rfl (fun ls hl => ?_)
  refine lv_iconst (v := 0) hx hb dX0_moveLevels_2 (by decide) ?_
  refine lv_istore (lv' := [(4, .int (0 : Int32)), (3, .int (0 : Int32)), (0, .ref (ad j)), (1, .int x1), (2, .int x2)]) hx hb dX0_moveLevels_3 hl (by decide) rfl (fun ls hl => ?_)
  obtain ⟨o_10, S_9, hq_8, h⟩ := ob_2s h
  refine kX0_moveLevels_L5 hj C _ _ _ _ _ _ _ _ hq_8 hP hD hS (lv_sub hl [2, 3, 4, 1, 0] rfl) (fun H locs ls hP hD hS hl => ?_)
  refine lv_iload_n hx hb dX0_moveLevels_50 rfl (lv_at hl 0 rfl) ?_
  obtain ⟨rfl, rfl⟩ := ob_w h
  exact km_iret C hP hD hS dX0_moveLevels_51
def fX0_saleNearest_L2 (j : Nat) : Nat → Int32 → Int32 → Int32 → RSt → Option ((Int32 × RSt) ⊕ ((RSt)))
  | 0, _, _, _, _ => none
  | n + 1, x1, x2, x3, S => (if x3 < 0 then (some (.inr S)) else (ob_2 (fX0_levelAt j x1 x3 S) fun r_3 S_4 => (if r_3 = (-1 : Int32) then (fX0_saleNearest_L2 j n x1 x2 (x3 + (-1 : Int32)) S_4) else (some (.inl (x3, S_4))))))
def fX0_saleNearest_L28 (j : Nat) : Nat → Int32 → Int32 → RSt → Option ((Int32 × RSt) ⊕ ((RSt)))
  | 0, _, _, _ => none
  | n + 1, x1, x3, S => (if (st_i S (3 * j)) ≤ x3 then (some (.inr S)) else (ob_2 (fX0_levelAt j x1 x3 S) fun r_16 S_17 => (if r_16 = (-1 : Int32) then (fX0_saleNearest_L28 j n x1 (x3 + (1 : Int32)) S_17) else (some (.inl (x3, S_17))))))
def fX0_saleNearest (j : Nat) (x1 : Int32) (x2 : Int32) (S : RSt) : Option (Int32 × RSt) := (ob_1 (fX0_saleNearest_L2 j 1000 x1 x2 x2 S) fun Z_8 => ob_s2 Z_8 (ob_u2 fun o_9 S_10 => (some (o_9, S_10))) (fun S_12 => (ob_1 (fX0_saleNearest_L28 j 1000 x1 (x2 + (1 : Int32)) S_12) fun Z_21 => ob_s2 Z_21 (ob_u2 fun o_22 S_23 => (some (o_22, S_23))) (fun S_25 => (some ((-1 : Int32), S_25))))))
abbrev rmX0_saleNearest : Room := { frames := 2, cells := 0, slots := 0, locals := 43 }
theorem nf_X0_saleNearest_f22 : Cond.fieldLink RX0 22 "RepeatIndex$Book" "months" "I" ∈ wsX0_saleNearest := by decide +kernel
theorem ni_X0_saleNearest_X0 : ∀ w ∈ u_ws RX0 TX0 5, w ∈ wsX0_saleNearest := by decide +kernel
set_option maxHeartbeats 4000000 in
set_option maxRecDepth 100000 in
theorem kX0_saleNearest_L2 {l : Launch} {D : va_G} {cy : Nat → ClassId} {ad : Nat → Nat} {E : ke_T} {j : Nat} (hj : j < 13) {p : Program} {e : Env} {s : State} {m : MethodId} {args : Array Value} {below : List Frame} {meth : Method} {c : Code} {A : Nat → Prop} {Q : State → Prop} (C : km_C p s m args meth c cX0_saleNearest 4 RX0 wsX0_saleNearest (some .int) D (rw_t cy) E A) : ∀ (n : Nat) (x1 : Int32) (x2 : Int32) (x3 : Int32) (S : RSt) (Z : (Int32 × RSt) ⊕ ((RSt))) (h : fX0_saleNearest_L2 j n x1 x2 x3 S = some Z) {H : Heap} {locs : List Loc} {ls : Array Slot} (hP : va_P D vwCl ((rw_w cy ad) S) H) (hD : va_D A ((rw_w cy ad) S)) (hS : va_S A s.heap H locs) (hl : lv_has ls 4 [(0, .ref (ad j)), (1, .int x1), (2, .int x2), (3, .int x3)]) (kx0 : ∀ (o3 : Int32) (S' : RSt), Z = .inl (o3, S') → ∀ (H : Heap) (locs : List Loc) (ls : Array Slot), va_P D vwCl ((rw_w cy ad) S') H → va_D A ((rw_w cy ad) S') → va_S A s.heap H locs → lv_has ls 4 [(3, .int o3)] → W p l e rmX0_saleNearest s m args below meth c H locs 0 0 Q (F0 m 16 ls [])) (kx1 : ∀ (S' : RSt), Z = .inr S' → ∀ (H : Heap) (locs : List Loc) (ls : Array Slot), va_P D vwCl ((rw_w cy ad) S') H → va_D A ((rw_w cy ad) S') → va_S A s.heap H locs → lv_has ls 4 [(0, .ref (ad j)), (1, .int x1), (2, .int x2)] → W p l e rmX0_saleNearest s m args below meth c H locs 0 0 Q (F0 m 24 ls [])), W p l e rmX0_saleNearest s m args below meth c H locs 0 0 Q (F0 m 2 ls []) := by
  obtain ⟨⟨hx, hb, hml, hown, hts⟩, hr, hlk, hK, hA, hE, hEE⟩ := id C
  intro n
  induction n with
  | zero =>
    intro x1 x2 x3 S Z h
    rw [fX0_saleNearest_L2] at h
    cases h
  | succ n ih =>
    intro x1 x2 x3 S Z h H locs ls hP hD hS hl kx0 kx1
    rw [fX0_saleNearest_L2] at h
    refine lv_iload_n hx hb dX0_saleNearest_2 rfl (lv_at hl 3 rfl) ?_
    refine lv_if_lt (tgt := 24) hx hb dX0_saleNearest_3 (by decide) (fun c_1 => ?_) (fun c_1 => ?_)
    · have h := ob_t c_1 h
      exact kx1 _ (ob_v h).symm _ _ _ hP hD hS (lv_sub hl [0, 1, 2] rfl)
    · have h := ob_f c_1 h
      refine lv_aload_n hx hb dX0_saleNearest_6 rfl (lv_at hl 0 rfl) ?_
      refine lv_iload_n hx hb dX0_saleNearest_7 rfl (lv_at hl 1 rfl) ?_
      refine lv_iload_n hx hb dX0_saleNearest_8 rfl (lv_at hl 3 rfl) ?_
      obtain ⟨r_3, S_4, hc_2, h⟩ := ob_2s h
      refine km_cVi (As := [.int x1, .int x3]) (rest := []) C (kX0_levelAt hEE hj hc_2) (cwV 2 hts gX0_saleNearest_X0_levelAt rfl rfl rfl (by decide +kernel) ⟨(Nat.le_of_ble_eq_true rfl), (Nat.le_of_ble_eq_true rfl)⟩) (rw_Book hj) rfl rfl rfl hP hD hS hl.1 rfl (Nat.le_of_ble_eq_true rfl) dX0_saleNearest_9 (fun H locs hP hD hS => ?_)
      refine lv_iconst (v := -1) hx hb dX0_saleNearest_12 (by decide) ?_
      refine lv_icmp_eq (tgt := 18) hx hb dX0_saleNearest_13 (by decide) (fun c_5 => ?_) (fun c_5 => ?_)
      · have h := ob_t c_5 h
        refine lv_iinc (v := x3 + (-1 : Int32)) (lv' := [(3, .int (x3 + (-1 : Int32))), (0, .ref (ad j)), (1, .int x1), (2, .int x2)]) hx hb dX0_saleNearest_18 hl (k := 3) rfl (congrArg (fun z => x3 + z) (by decide)) (by decide) rfl (fun ls hl => ?_)
        refine lv_goto (tgt := 2) hx hb dX0_saleNearest_21 (by decide) ?_
        exact ih _ _ _ _ _ h hP hD hS (lv_sub hl [1, 2, 3, 0] rfl) kx0 kx1
      · have h := ob_f c_5 h
        exact kx0 _ _ (ob_v h).symm _ _ _ hP hD hS (lv_sub hl [3] rfl)
set_option maxHeartbeats 4000000 in
set_option maxRecDepth 100000 in
theorem kX0_saleNearest_L28 {l : Launch} {D : va_G} {cy : Nat → ClassId} {ad : Nat → Nat} {E : ke_T} {j : Nat} (hj : j < 13) {p : Program} {e : Env} {s : State} {m : MethodId} {args : Array Value} {below : List Frame} {meth : Method} {c : Code} {A : Nat → Prop} {Q : State → Prop} (C : km_C p s m args meth c cX0_saleNearest 4 RX0 wsX0_saleNearest (some .int) D (rw_t cy) E A) : ∀ (n : Nat) (x1 : Int32) (x3 : Int32) (S : RSt) (Z : (Int32 × RSt) ⊕ ((RSt))) (h : fX0_saleNearest_L28 j n x1 x3 S = some Z) {H : Heap} {locs : List Loc} {ls : Array Slot} (hP : va_P D vwCl ((rw_w cy ad) S) H) (hD : va_D A ((rw_w cy ad) S)) (hS : va_S A s.heap H locs) (hl : lv_has ls 4 [(0, .ref (ad j)), (1, .int x1), (3, .int x3)]) (kx0 : ∀ (o3 : Int32) (S' : RSt), Z = .inl (o3, S') → ∀ (H : Heap) (locs : List Loc) (ls : Array Slot), va_P D vwCl ((rw_w cy ad) S') H → va_D A ((rw_w cy ad) S') → va_S A s.heap H locs → lv_has ls 4 [(3, .int o3)] → W p l e rmX0_saleNearest s m args below meth c H locs 0 0 Q (F0 m 46 ls [])) (kx1 : ∀ (S' : RSt), Z = .inr S' → ∀ (H : Heap) (locs : List Loc) (ls : Array Slot), va_P D vwCl ((rw_w cy ad) S') H → va_D A ((rw_w cy ad) S') → va_S A s.heap H locs → lv_has ls 4 [] → W p l e rmX0_saleNearest s m args below meth c H locs 0 0 Q (F0 m 54 ls [])), W p l e rmX0_saleNearest s m args below meth c H locs 0 0 Q (F0 m 28 ls []) := by
  obtain ⟨⟨hx, hb, hml, hown, hts⟩, hr, hlk, hK, hA, hE, hEE⟩ := id C
  intro n
  induction n with
  | zero =>
    intro x1 x3 S Z h
    rw [fX0_saleNearest_L28] at h
    cases h
  | succ n ih =>
    intro x1 x3 S Z h H locs ls hP hD hS hl kx0 kx1
    rw [fX0_saleNearest_L28] at h
    refine lv_iload_n hx hb dX0_saleNearest_28 rfl (lv_at hl 2 rfl) ?_
    refine lv_aload_n hx hb dX0_saleNearest_29 rfl (lv_at hl 0 rfl) ?_
    refine va_get (D := D) (ci := 0) (v := .int (st_i S (3 * j))) (C := RX0) (T := TX0) (N := 5) hx hb hts ni_X0_saleNearest_X0 hown hK hP j (rw_Book hj) rfl 0 (by decide) (hts _ nf_X0_saleNearest_f22) (fun _ h9 => h9) rfl dX0_saleNearest_30 ?_
    refine lv_icmp_ge (tgt := 54) hx hb dX0_saleNearest_33 (by decide) (fun c_14 => ?_) (fun c_14 => ?_)
    · have h := ob_t c_14 h
      exact kx1 _ (ob_v h).symm _ _ _ hP hD hS (lv_sub hl [] rfl)
    · have h := ob_f c_14 h
      refine lv_aload_n hx hb dX0_saleNearest_36 rfl (lv_at hl 0 rfl) ?_
      refine lv_iload_n hx hb dX0_saleNearest_37 rfl (lv_at hl 1 rfl) ?_
      refine lv_iload_n hx hb dX0_saleNearest_38 rfl (lv_at hl 2 rfl) ?_
      obtain ⟨r_16, S_17, hc_15, h⟩ := ob_2s h
      refine km_cVi (As := [.int x1, .int x3]) (rest := []) C (kX0_levelAt hEE hj hc_15) (cwV 2 hts gX0_saleNearest_X0_levelAt rfl rfl rfl (by decide +kernel) ⟨(Nat.le_of_ble_eq_true rfl), (Nat.le_of_ble_eq_true rfl)⟩) (rw_Book hj) rfl rfl rfl hP hD hS hl.1 rfl (Nat.le_of_ble_eq_true rfl) dX0_saleNearest_39 (fun H locs hP hD hS => ?_)
      refine lv_iconst (v := -1) hx hb dX0_saleNearest_42 (by decide) ?_
      refine lv_icmp_eq (tgt := 48) hx hb dX0_saleNearest_43 (by decide) (fun c_18 => ?_) (fun c_18 => ?_)
      · have h := ob_t c_18 h
        refine lv_iinc (v := x3 + (1 : Int32)) (lv' := [(3, .int (x3 + (1 : Int32))), (0, .ref (ad j)), (1, .int x1)]) hx hb dX0_saleNearest_48 hl (k := 2) rfl (congrArg (fun z => x3 + z) (by decide)) (by decide) rfl (fun ls hl => ?_)
        refine lv_goto (tgt := 28) hx hb dX0_saleNearest_51 (by decide) ?_
        exact ih _ _ _ _ h hP hD hS (lv_sub hl [1, 2, 0] rfl) kx0 kx1
      · have h := ob_f c_18 h
        exact kx0 _ _ (ob_v h).symm _ _ _ hP hD hS (lv_sub hl [2] rfl)
set_option maxHeartbeats 4000000 in
set_option maxRecDepth 100000 in
theorem kX0_saleNearest {l : Launch} {D : va_G} {cy : Nat → ClassId} {ad : Nat → Nat} {E : ke_T} (hEE : km_E E) {j : Nat} (hj : j < 13) {x1 : Int32} {x2 : Int32} {S : RSt} {r : Int32} {S' : RSt} (h : fX0_saleNearest j x1 x2 S = some (r, S')) : km_i l D (rw_t cy) (rw_w cy ad) E yX0_saleNearest wsX0_saleNearest rmX0_saleNearest [.ref (ad j), .int x1, .int x2] S r S' := by
  refine km_i_in (cc := cX0_saleNearest) (nL := 4) hEE (by decide) rfl (Nat.le_of_ble_eq_true rfl) ?_
  intro p e s m below meth c A H ls C hP hD hS hl
  have C : km_C p s m _ meth c cX0_saleNearest 4 RX0 wsX0_saleNearest (some .int) D (rw_t cy) E A := C
  obtain ⟨⟨hx, hb, hml, hown, hts⟩, hr, hlk, hK, hA, hE, hEE⟩ := id C
  have hl : lv_has ls 4 [(0, .ref (ad j)), (1, .int x1), (2, .int x2)] := hl
  unfold fX0_saleNearest at h
  refine lv_iload_n hx hb dX0_saleNearest_0 rfl (lv_at hl 2 rfl) ?_
  refine lv_istore_n (lv' := [(3, .int x2), (0, .ref (ad j)), (1, .int x1), (2, .int x2)]) hx hb dX0_saleNearest_1 rfl hl (by decide) rfl (fun ls hl => ?_)
  obtain ⟨Z_8, hq_6, h⟩ := ob_1s h
  refine kX0_saleNearest_L2 hj C _ _ _ _ _ _ hq_6 hP hD hS (lv_sub hl [1, 2, 3, 0] rfl) (fun o_9 S_10 ee_11 H locs ls hP hD hS hl => ?_) (fun S_12 ee_13 H locs ls hP hD hS hl => ?_)
  · subst ee_11
    have h := ob_s2_0 h
    have h := ob_u2s h
    refine lv_iload_n hx hb dX0_saleNearest_16 rfl (lv_at hl 0 rfl) ?_
    obtain ⟨rfl, rfl⟩ := ob_w h
    exact km_iret C hP hD hS dX0_saleNearest_17
  · subst ee_13
    have h := ob_s2_1 h
    refine lv_iload_n hx hb dX0_saleNearest_24 rfl (lv_at hl 2 rfl) ?_
    refine lv_iconst (v := 1) hx hb dX0_saleNearest_25 (by decide) ?_
    refine lv_iadd hx hb dX0_saleNearest_26 ?_
    refine lv_istore_n (lv' := [(3, .int (x2 + (1 : Int32))), (0, .ref (ad j)), (1, .int x1), (2, .int x2)]) hx hb dX0_saleNearest_27 rfl hl (by decide) rfl (fun ls hl => ?_)
    obtain ⟨Z_21, hq_19, h⟩ := ob_1s h
    refine kX0_saleNearest_L28 hj C _ _ _ _ _ hq_19 hP hD hS (lv_sub hl [1, 2, 0] rfl) (fun o_22 S_23 ee_24 H locs ls hP hD hS hl => ?_) (fun S_25 ee_26 H locs ls hP hD hS hl => ?_)
    · subst ee_24
      have h := ob_s2_0 h
      have h := ob_u2s h
      refine lv_iload_n hx hb dX0_saleNearest_46 rfl (lv_at hl 0 rfl) ?_
      obtain ⟨rfl, rfl⟩ := ob_w h
      exact km_iret C hP hD hS dX0_saleNearest_47
    · subst ee_26
      have h := ob_s2_1 h
      refine lv_iconst (v := -1) hx hb dX0_saleNearest_54 (by decide) ?_
      obtain ⟨rfl, rfl⟩ := ob_w h
      exact km_iret C hP hD hS dX0_saleNearest_55
def fX0_weightOf_L2 (j : Nat) : Nat → Int32 → RSt → Option ((Int32 × RSt) ⊕ ((RSt)))
  | 0, _, _ => none
  | n + 1, x2, S => (if x2 < (1 : Int32) then (some (.inr S)) else (ob_2 (fX0_hasGap j x2 S) fun r_3 S_4 => (if r_3 = 0 then (fX0_weightOf_L2 j n (x2 + (-1 : Int32)) S_4) else (ob_in x2 8 (if (st_a S_4 (2 * j) x2.toNatClampNeg) = 0 then (fX0_weightOf_L2 j n (x2 + (-1 : Int32)) S_4) else (some (.inl (x2, S_4))))))))
def fX0_weightOf (j : Nat) (x1 : Int32) (S : RSt) : Option (Int32 × RSt) := (ob_1 (fX0_weightOf_L2 j 1000 x1 S) fun Z_11 => ob_s2 Z_11 (ob_u2 fun o_12 S_13 => (ob_in o_12 8 (some (st_a S_13 (2 * j) o_12.toNatClampNeg, S_13)))) (fun S_16 => (some ((1 : Int32), S_16))))
abbrev rmX0_weightOf : Room := { frames := 1, cells := 0, slots := 0, locals := 21 }
theorem nf_X0_weightOf_f9 : Cond.fieldLink RX0 9 "RepeatIndex$Book" "weights" "[I" ∈ wsX0_weightOf := by decide +kernel
theorem ni_X0_weightOf_X0 : ∀ w ∈ u_ws RX0 TX0 5, w ∈ wsX0_weightOf := by decide +kernel
set_option maxHeartbeats 4000000 in
set_option maxRecDepth 100000 in
theorem kX0_weightOf_L2 {l : Launch} {D : va_G} {cy : Nat → ClassId} {ad : Nat → Nat} {E : ke_T} {j : Nat} (hj : j < 13) {p : Program} {e : Env} {s : State} {m : MethodId} {args : Array Value} {below : List Frame} {meth : Method} {c : Code} {A : Nat → Prop} {Q : State → Prop} (C : km_C p s m args meth c cX0_weightOf 3 RX0 wsX0_weightOf (some .int) D (rw_t cy) E A) : ∀ (n : Nat) (x2 : Int32) (S : RSt) (Z : (Int32 × RSt) ⊕ ((RSt))) (h : fX0_weightOf_L2 j n x2 S = some Z) {H : Heap} {locs : List Loc} {ls : Array Slot} (hP : va_P D vwCl ((rw_w cy ad) S) H) (hD : va_D A ((rw_w cy ad) S)) (hS : va_S A s.heap H locs) (hl : lv_has ls 3 [(0, .ref (ad j)), (2, .int x2)]) (kx0 : ∀ (o2 : Int32) (S' : RSt), Z = .inl (o2, S') → ∀ (H : Heap) (locs : List Loc) (ls : Array Slot), va_P D vwCl ((rw_w cy ad) S') H → va_D A ((rw_w cy ad) S') → va_S A s.heap H locs → lv_has ls 3 [(0, .ref (ad j)), (2, .int o2)] → W p l e rmX0_weightOf s m args below meth c H locs 0 0 Q (F0 m 24 ls [])) (kx1 : ∀ (S' : RSt), Z = .inr S' → ∀ (H : Heap) (locs : List Loc) (ls : Array Slot), va_P D vwCl ((rw_w cy ad) S') H → va_D A ((rw_w cy ad) S') → va_S A s.heap H locs → lv_has ls 3 [] → W p l e rmX0_weightOf s m args below meth c H locs 0 0 Q (F0 m 37 ls [])), W p l e rmX0_weightOf s m args below meth c H locs 0 0 Q (F0 m 2 ls []) := by
  obtain ⟨⟨hx, hb, hml, hown, hts⟩, hr, hlk, hK, hA, hE, hEE⟩ := id C
  intro n
  induction n with
  | zero =>
    intro x2 S Z h
    rw [fX0_weightOf_L2] at h
    cases h
  | succ n ih =>
    intro x2 S Z h H locs ls hP hD hS hl kx0 kx1
    rw [fX0_weightOf_L2] at h
    refine lv_iload_n hx hb dX0_weightOf_2 rfl (lv_at hl 1 rfl) ?_
    refine lv_iconst (v := 1) hx hb dX0_weightOf_3 (by decide) ?_
    refine lv_icmp_lt (tgt := 37) hx hb dX0_weightOf_4 (by decide) (fun c_1 => ?_) (fun c_1 => ?_)
    · have h := ob_t c_1 h
      exact kx1 _ (ob_v h).symm _ _ _ hP hD hS (lv_sub hl [] rfl)
    · have h := ob_f c_1 h
      refine lv_aload_n hx hb dX0_weightOf_7 rfl (lv_at hl 0 rfl) ?_
      refine lv_iload_n hx hb dX0_weightOf_8 rfl (lv_at hl 1 rfl) ?_
      obtain ⟨r_3, S_4, hc_2, h⟩ := ob_2s h
      refine km_cVz (As := [.int x2]) (rest := []) C (kX0_hasGap hEE hj hc_2) (cwV 1 hts gX0_weightOf_X0_hasGap rfl rfl rfl (by decide +kernel) ⟨(Nat.le_of_ble_eq_true rfl), (Nat.le_of_ble_eq_true rfl)⟩) (rw_Book hj) rfl rfl rfl hP hD hS hl.1 rfl (Nat.le_of_ble_eq_true rfl) dX0_weightOf_9 (fun H locs hP hD hS hz_5 => ?_)
      refine lv_if_eq (tgt := 31) hx hb dX0_weightOf_12 (by decide) (fun c_6 => ?_) (fun c_6 => ?_)
      · have h := ob_t c_6 h
        refine lv_iinc (v := x2 + (-1 : Int32)) (lv' := [(2, .int (x2 + (-1 : Int32))), (0, .ref (ad j))]) hx hb dX0_weightOf_31 hl (k := 1) rfl (congrArg (fun z => x2 + z) (by decide)) (by decide) rfl (fun ls hl => ?_)
        refine lv_goto (tgt := 2) hx hb dX0_weightOf_34 (by decide) ?_
        exact ih _ _ _ h hP hD hS (lv_sub hl [1, 0] rfl) kx0 kx1
      · have h := ob_f c_6 h
        refine lv_aload_n hx hb dX0_weightOf_15 rfl (lv_at hl 0 rfl) ?_
        refine va_get (D := D) (ci := 0) (v := .ref (ad (23 + 2 * j))) (C := RX0) (T := TX0) (N := 5) hx hb hts ni_X0_weightOf_X0 hown hK hP j (rw_Book hj) rfl 3 (by decide) (hts _ nf_X0_weightOf_f9) (fun _ h9 => h9) rfl dX0_weightOf_16 ?_
        refine lv_iload_n hx hb dX0_weightOf_19 rfl (lv_at hl 1 rfl) ?_
        obtain ⟨hv_7, h⟩ := ob_in_s h
        refine va_iald hx hb hK hP (23 + 2 * j) 0 (rw_weights hj) rfl hv_7 dX0_weightOf_20 ?_
        refine lv_if_eq (tgt := 31) hx hb dX0_weightOf_21 (by decide) (fun c_8 => ?_) (fun c_8 => ?_)
        · have h := ob_t c_8 h
          refine lv_iinc (v := x2 + (-1 : Int32)) (lv' := [(2, .int (x2 + (-1 : Int32))), (0, .ref (ad j))]) hx hb dX0_weightOf_31 hl (k := 1) rfl (congrArg (fun z => x2 + z) (by decide)) (by decide) rfl (fun ls hl => ?_)
          refine lv_goto (tgt := 2) hx hb dX0_weightOf_34 (by decide) ?_
          exact ih _ _ _ h hP hD hS (lv_sub hl [1, 0] rfl) kx0 kx1
        · have h := ob_f c_8 h
          exact kx0 _ _ (ob_v h).symm _ _ _ hP hD hS (lv_sub hl [0, 1] rfl)
set_option maxHeartbeats 4000000 in
set_option maxRecDepth 100000 in
theorem kX0_weightOf {l : Launch} {D : va_G} {cy : Nat → ClassId} {ad : Nat → Nat} {E : ke_T} (hEE : km_E E) {j : Nat} (hj : j < 13) {x1 : Int32} {S : RSt} {r : Int32} {S' : RSt} (h : fX0_weightOf j x1 S = some (r, S')) : km_i l D (rw_t cy) (rw_w cy ad) E yX0_weightOf wsX0_weightOf rmX0_weightOf [.ref (ad j), .int x1] S r S' := by
  refine km_i_in (cc := cX0_weightOf) (nL := 3) hEE (by decide) rfl (Nat.le_of_ble_eq_true rfl) ?_
  intro p e s m below meth c A H ls C hP hD hS hl
  have C : km_C p s m _ meth c cX0_weightOf 3 RX0 wsX0_weightOf (some .int) D (rw_t cy) E A := C
  obtain ⟨⟨hx, hb, hml, hown, hts⟩, hr, hlk, hK, hA, hE, hEE⟩ := id C
  have hl : lv_has ls 3 [(0, .ref (ad j)), (1, .int x1)] := hl
  unfold fX0_weightOf at h
  refine lv_iload_n hx hb dX0_weightOf_0 rfl (lv_at hl 1 rfl) ?_
  refine lv_istore_n (lv' := [(2, .int x1), (0, .ref (ad j)), (1, .int x1)]) hx hb dX0_weightOf_1 rfl hl (by decide) rfl (fun ls hl => ?_)
  obtain ⟨Z_11, hq_9, h⟩ := ob_1s h
  refine kX0_weightOf_L2 hj C _ _ _ _ hq_9 hP hD hS (lv_sub hl [1, 0] rfl) (fun o_12 S_13 ee_14 H locs ls hP hD hS hl => ?_) (fun S_16 ee_17 H locs ls hP hD hS hl => ?_)
  · subst ee_14
    have h := ob_s2_0 h
    have h := ob_u2s h
    refine lv_aload_n hx hb dX0_weightOf_24 rfl (lv_at hl 0 rfl) ?_
    refine va_get (D := D) (ci := 0) (v := .ref (ad (23 + 2 * j))) (C := RX0) (T := TX0) (N := 5) hx hb hts ni_X0_weightOf_X0 hown hK hP j (rw_Book hj) rfl 3 (by decide) (hts _ nf_X0_weightOf_f9) (fun _ h9 => h9) rfl dX0_weightOf_25 ?_
    refine lv_iload_n hx hb dX0_weightOf_28 rfl (lv_at hl 1 rfl) ?_
    obtain ⟨hv_15, h⟩ := ob_in_s h
    refine va_iald hx hb hK hP (23 + 2 * j) 0 (rw_weights hj) rfl hv_15 dX0_weightOf_29 ?_
    obtain ⟨rfl, rfl⟩ := ob_w h
    exact km_iret C hP hD hS dX0_weightOf_30
  · subst ee_17
    have h := ob_s2_1 h
    refine lv_iconst (v := 1) hx hb dX0_weightOf_37 (by decide) ?_
    obtain ⟨rfl, rfl⟩ := ob_w h
    exact km_iret C hP hD hS dX0_weightOf_38
