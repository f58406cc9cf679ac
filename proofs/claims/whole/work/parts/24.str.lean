def fX3_spells_L23 (w : Nat) : Nat → Int32 → RSt → Option ((RSt) ⊕ ((RSt)))
  | 0, _, _ => none
  | n + 1, x2, S => (if (st_i S 49) ≤ x2 then (some (.inr S)) else (ob_in x2 540 (ob_in (x2 - (st_i S 48)) (js_len.getD w 0) (if (st_a S 112 x2.toNatClampNeg) = (js_c w (x2 - (st_i S 48)).toNatClampNeg) then (fX3_spells_L23 w n (x2 + (1 : Int32)) S) else (some (.inl S))))))
def fX3_spells (w : Nat) (S : RSt) : Option (Int32 × RSt) := (if (js_n w) = ((st_i S 49) - (st_i S 48)) then (ob_1 (fX3_spells_L23 w 1000 (st_i S 48) S) fun Z_8 => ob_s2 Z_8 (fun S_9 => (some ((0 : Int32), S_9))) (fun S_11 => (some ((1 : Int32), S_11)))) else (some ((0 : Int32), S)))
abbrev rmX3_spells : Room := { frames := 4, cells := 0, slots := 0, locals := 85 }
theorem nf_X3_spells_f37 : Cond.fieldLink RX3 37 "RepeatIndex$Tape" "at" "I" ∈ wsX3_spells := by decide +kernel
theorem ni_X3_spells_X3 : ∀ w ∈ u_ws RX3 TX3 11, w ∈ wsX3_spells := by decide +kernel
theorem nf_X3_spells_f127 : Cond.fieldLink RX3 127 "RepeatIndex$Tape" "begin" "I" ∈ wsX3_spells := by decide +kernel
theorem nf_X3_spells_f18 : Cond.fieldLink RX3 18 "RepeatIndex$Tape" "bytes" "[B" ∈ wsX3_spells := by decide +kernel
set_option maxHeartbeats 4000000 in
set_option maxRecDepth 100000 in
theorem kX3_spells_L23 {l : Launch} {D : va_G} {cy : Nat → ClassId} {ad : Nat → Nat} {kn kv : Nat → Nat} {w : Nat} (hw : w < 4) {p : Program} {e : Env} {s : State} {m : MethodId} {args : Array Value} {below : List Frame} {meth : Method} {c : Code} {A : Nat → Prop} {Q : State → Prop} (C : km_C p s m args meth c cX3_spells 3 RX3 wsX3_spells (some .boolean) D (rw_t cy) (ke_R kn kv) A) : ∀ (n : Nat) (x2 : Int32) (S : RSt) (Z : (RSt) ⊕ ((RSt))) (h : fX3_spells_L23 w n x2 S = some Z) {H : Heap} {locs : List Loc} {ls : Array Slot} (hP : va_P D vwCl ((rw_w cy ad) S) H) (hD : va_D A ((rw_w cy ad) S)) (hS : va_S A s.heap H locs) (hl : lv_has ls 3 [(0, .ref (ad 16)), (1, .ref (kn w)), (2, .int x2)]) (kx0 : ∀ (S' : RSt), Z = .inl S' → ∀ (H : Heap) (locs : List Loc) (ls : Array Slot), va_P D vwCl ((rw_w cy ad) S') H → va_D A ((rw_w cy ad) S') → va_S A s.heap H locs → lv_has ls 3 [] → W p l e rmX3_spells s m args below meth c H locs 0 0 Q (F0 m 50 ls [])) (kx1 : ∀ (S' : RSt), Z = .inr S' → ∀ (H : Heap) (locs : List Loc) (ls : Array Slot), va_P D vwCl ((rw_w cy ad) S') H → va_D A ((rw_w cy ad) S') → va_S A s.heap H locs → lv_has ls 3 [] → W p l e rmX3_spells s m args below meth c H locs 0 0 Q (F0 m 58 ls [])), W p l e rmX3_spells s m args below meth c H locs 0 0 Q (F0 m 23 ls []) := by
  obtain ⟨⟨hx, hb, hml, hown, hts⟩, hr, hlk, hK, hA, hE, hEE⟩ := id C
  intro n
  induction n with
  | zero =>
    intro x2 S Z h
    rw [fX3_spells_L23] at h
    cases h
  | succ n ih =>
    intro x2 S Z h H locs ls hP hD hS hl kx0 kx1
    rw [fX3_spells_L23] at h
    refine lv_iload_n hx hb dX3_spells_23 rfl (lv_at hl 2 rfl) ?_
    refine lv_aload_n hx hb dX3_spells_24 rfl (lv_at hl 0 rfl) ?_
    refine va_get (D := D) (ci := 3) (v := .int (st_i S 49)) (C := RX3) (T := TX3) (N := 11) hx hb hts ni_X3_spells_X3 hown hK hP 16 rw_Tape rfl 6 (by decide) (hts _ nf_X3_spells_f37) (fun _ h9 => h9) rfl dX3_spells_25 ?_
    refine lv_icmp_ge (tgt := 58) hx hb dX3_spells_28 (by decide) (fun c_2 => ?_) (fun c_2 => ?_)
    · have h := ob_t c_2 h
      exact kx1 _ (ob_v h).symm _ _ _ hP hD hS (lv_sub hl [] rfl)
    · have h := ob_f c_2 h
      refine lv_aload_n hx hb dX3_spells_31 rfl (lv_at hl 0 rfl) ?_
      refine va_get (D := D) (ci := 3) (v := .ref (ad 155)) (C := RX3) (T := TX3) (N := 11) hx hb hts ni_X3_spells_X3 hown hK hP 16 rw_Tape rfl 5 (by decide) (hts _ nf_X3_spells_f18) (fun _ h9 => h9) rfl dX3_spells_32 ?_
      refine lv_iload_n hx hb dX3_spells_35 rfl (lv_at hl 2 rfl) ?_
      obtain ⟨hv_3, h⟩ := ob_in_s h
      refine va_bald hx hb hK hP 155 2 rw_bytes rfl hv_3 dX3_spells_36 ?_
      refine lv_aload_n hx hb dX3_spells_37 rfl (lv_at hl 1 rfl) ?_
      refine lv_iload_n hx hb dX3_spells_38 rfl (lv_at hl 2 rfl) ?_
      refine lv_aload_n hx hb dX3_spells_39 rfl (lv_at hl 0 rfl) ?_
      refine va_get (D := D) (ci := 3) (v := .int (st_i S 48)) (C := RX3) (T := TX3) (N := 11) hx hb hts ni_X3_spells_X3 hown hK hP 16 rw_Tape rfl 3 (by decide) (hts _ nf_X3_spells_f127) (fun _ h9 => h9) rfl dX3_spells_40 ?_
      refine lv_isub hx hb dX3_spells_43 ?_
      obtain ⟨hv_4, h⟩ := ob_in_s h
      refine km_cRi (As := [.int (x2 - (st_i S 48))]) (rest := [.int (st_a S 112 x2.toNatClampNeg)]) C (kJ0_charAt hw hv_4) (cwV 1 hts gX3_spells_J0_charAt_5068e rfl rfl rfl (by decide +kernel) ⟨(Nat.le_of_ble_eq_true rfl), (Nat.le_of_ble_eq_true rfl)⟩) (js_rv hE hw hS) rfl hP hD hS hl.1 rfl (Nat.le_of_ble_eq_true rfl) dX3_spells_44 (fun H locs hP hD hS => ?_)
      refine lv_icmp_eq (tgt := 52) hx hb dX3_spells_47 (by decide) (fun c_5 => ?_) (fun c_5 => ?_)
      · have h := ob_t c_5 h
        refine lv_iinc (v := x2 + (1 : Int32)) (lv' := [(2, .int (x2 + (1 : Int32))), (0, .ref (ad 16)), (1, .ref (kn w))]) hx hb dX3_spells_52 hl (k := 2) rfl (congrArg (fun z => x2 + z) (by decide)) (by decide) rfl (fun ls hl => ?_)
        refine lv_goto (tgt := 23) hx hb dX3_spells_55 (by decide) ?_
        exact ih _ _ _ h hP hD hS (lv_sub hl [1, 2, 0] rfl) kx0 kx1
      · have h := ob_f c_5 h
        exact kx0 _ (ob_v h).symm _ _ _ hP hD hS (lv_sub hl [] rfl)
set_option maxHeartbeats 4000000 in
set_option maxRecDepth 100000 in
theorem kX3_spells {l : Launch} {D : va_G} {cy : Nat → ClassId} {ad : Nat → Nat} {kn kv : Nat → Nat} (hEE : km_E (ke_R kn kv)) {w : Nat} (hw : w < 4) {S : RSt} {r : Int32} {S' : RSt} (h : fX3_spells w S = some (r, S')) : km_z l D (rw_t cy) (rw_w cy ad) (ke_R kn kv) yX3_spells wsX3_spells rmX3_spells [.ref (ad 16), .ref (kn w)] S r S' := by
  refine km_z_in (cc := cX3_spells) (nL := 3) hEE (by decide) rfl (Nat.le_of_ble_eq_true rfl) ?_
  intro p e s m below meth c A H ls C hP hD hS hl
  have C : km_C p s m _ meth c cX3_spells 3 RX3 wsX3_spells (some .boolean) D (rw_t cy) (ke_R kn kv) A := C
  obtain ⟨⟨hx, hb, hml, hown, hts⟩, hr, hlk, hK, hA, hE, hEE⟩ := id C
  have hl : lv_has ls 3 [(0, .ref (ad 16)), (1, .ref (kn w))] := hl
  unfold fX3_spells at h
  refine lv_aload_n hx hb dX3_spells_0 rfl (lv_at hl 1 rfl) ?_
  refine km_cRi (As := []) (rest := []) C (kJ0_length hw) (cwV 0 hts gX3_spells_J0_length_8abf5 rfl rfl rfl (by decide +kernel) ⟨(Nat.le_of_ble_eq_true rfl), (Nat.le_of_ble_eq_true rfl)⟩) (js_rv hE hw hS) rfl hP hD hS hl.1 rfl (Nat.le_of_ble_eq_true rfl) dX3_spells_1 (fun H locs hP hD hS => ?_)
  refine lv_aload_n hx hb dX3_spells_4 rfl (lv_at hl 0 rfl) ?_
  refine va_get (D := D) (ci := 3) (v := .int (st_i S 49)) (C := RX3) (T := TX3) (N := 11) hx hb hts ni_X3_spells_X3 hown hK hP 16 rw_Tape rfl 6 (by decide) (hts _ nf_X3_spells_f37) (fun _ h9 => h9) rfl dX3_spells_5 ?_
  refine lv_aload_n hx hb dX3_spells_8 rfl (lv_at hl 0 rfl) ?_
  refine va_get (D := D) (ci := 3) (v := .int (st_i S 48)) (C := RX3) (T := TX3) (N := 11) hx hb hts ni_X3_spells_X3 hown hK hP 16 rw_Tape rfl 3 (by decide) (hts _ nf_X3_spells_f127) (fun _ h9 => h9) rfl dX3_spells_9 ?_
  refine lv_isub hx hb dX3_spells_12 ?_
  refine lv_icmp_eq (tgt := 18) hx hb dX3_spells_13 (by decide) (fun c_1 => ?_) (fun c_1 => ?_)
  · have h := ob_t c_1 h
    refine lv_aload_n hx hb dX3_spells_18 rfl (lv_at hl 0 rfl) ?_
    refine va_get (D := D) (ci := 3) (v := .int (st_i S 48)) (C := RX3) (T := TX3) (N := 11) hx hb hts ni_X3_spells_X3 hown hK hP 16 rw_Tape rfl 3 (by decide) (hts _ nf_X3_spells_f127) (fun _ h9 => h9) rfl dX3_spells_19 ?_
    refine lv_istore_n (lv' := [(2, .int (st_i S 48)), (0, .ref (ad 16)), (1, .ref (kn w))]) hx hb dX3_spells_22 rfl hl (by decide) rfl (fun ls hl => ?_)
    obtain ⟨Z_8, hq_6, h⟩ := ob_1s h
    refine kX3_spells_L23 hw C _ _ _ _ hq_6 hP hD hS (lv_sub hl [1, 2, 0] rfl) (fun S_9 ee_10 H locs ls hP hD hS hl => ?_) (fun S_11 ee_12 H locs ls hP hD hS hl => ?_)
    · subst ee_10
      have h := ob_s2_0 h
      refine lv_iconst (v := 0) hx hb dX3_spells_50 (by decide) ?_
      obtain ⟨rfl, rfl⟩ := ob_w h
      exact km_zret C (by decide) hP hD hS dX3_spells_51
    · subst ee_12
      have h := ob_s2_1 h
      refine lv_iconst (v := 1) hx hb dX3_spells_58 (by decide) ?_
      obtain ⟨rfl, rfl⟩ := ob_w h
      exact km_zret C (by decide) hP hD hS dX3_spells_59
  · have h := ob_f c_1 h
    refine lv_iconst (v := 0) hx hb dX3_spells_16 (by decide) ?_
    obtain ⟨rfl, rfl⟩ := ob_w h
    exact km_zret C (by decide) hP hD hS dX3_spells_17
def fX3_findWord (S : RSt) : Option (Int32 × RSt) := (ob_2 (fX3_spells 0 S) fun r_2 S_3 => (if r_2 = 0 then (ob_2 (fX3_spells 1 S_3) fun r_7 S_8 => (if r_7 = 0 then (ob_2 (fX3_spells 2 S_8) fun r_12 S_13 => (if r_12 = 0 then (ob_2 (fX3_spells 3 S_13) fun r_17 S_18 => (if r_17 = 0 then (some ((1 : Int32), S_18)) else (some ((7 : Int32), S_18)))) else (some ((6 : Int32), S_13)))) else (some ((5 : Int32), S_8)))) else (some ((4 : Int32), S_3))))
abbrev rmX3_findWord : Room := { frames := 5, cells := 0, slots := 0, locals := 107 }
set_option maxHeartbeats 4000000 in
set_option maxRecDepth 100000 in
theorem kX3_findWord {l : Launch} {D : va_G} {cy : Nat → ClassId} {ad : Nat → Nat} {kn kv : Nat → Nat} (hEE : km_E (ke_R kn kv)) {S : RSt} {r : Int32} {S' : RSt} (h : fX3_findWord S = some (r, S')) : km_i l D (rw_t cy) (rw_w cy ad) (ke_R kn kv) yX3_findWord wsX3_findWord rmX3_findWord [.ref (ad 16)] S r S' := by
  refine km_i_in (cc := cX3_findWord) (nL := 1) hEE (by decide) rfl (Nat.le_of_ble_eq_true rfl) ?_
  intro p e s m below meth c A H ls C hP hD hS hl
  have C : km_C p s m _ meth c cX3_findWord 1 RX3 wsX3_findWord (some .int) D (rw_t cy) (ke_R kn kv) A := C
  obtain ⟨⟨hx, hb, hml, hown, hts⟩, hr, hlk, hK, hA, hE, hEE⟩ := id C
  have hl : lv_has ls 1 [(0, .ref (ad 16))] := hl
  unfold fX3_findWord at h
  refine lv_aload_n hx hb dX3_findWord_0 rfl (lv_at hl 0 rfl) ?_
  refine va_ldcS hx hb hown (show vk_R RX3 147 "months" (kn 0) s from hE.2.2.2.2.1 0 (by decide)) dX3_findWord_1 ?_
  obtain ⟨r_2, S_3, hc_1, h⟩ := ob_2s h
  refine km_cVz (As := [.ref (kn 0)]) (rest := []) C (kX3_spells hEE (by decide) hc_1) (cwV 1 hts gX3_findWord_X3_spells rfl rfl rfl (by decide +kernel) ⟨(Nat.le_of_ble_eq_true rfl), (Nat.le_of_ble_eq_true rfl)⟩) rw_Tape rfl rfl rfl hP hD hS hl.1 rfl (Nat.le_of_ble_eq_true rfl) dX3_findWord_3 (fun H locs hP hD hS hz_4 => ?_)
  refine lv_if_eq (tgt := 11) hx hb dX3_findWord_6 (by decide) (fun c_5 => ?_) (fun c_5 => ?_)
  · have h := ob_t c_5 h
    refine lv_aload_n hx hb dX3_findWord_11 rfl (lv_at hl 0 rfl) ?_
    refine va_ldcS hx hb hown (show vk_R RX3 152 "weigh" (kn 1) s from hE.2.2.2.2.1 1 (by decide)) dX3_findWord_12 ?_
    obtain ⟨r_7, S_8, hc_6, h⟩ := ob_2s h
    refine km_cVz (As := [.ref (kn 1)]) (rest := []) C (kX3_spells hEE (by decide) hc_6) (cwV 1 hts gX3_findWord_X3_spells rfl rfl rfl (by decide +kernel) ⟨(Nat.le_of_ble_eq_true rfl), (Nat.le_of_ble_eq_true rfl)⟩) rw_Tape rfl rfl rfl hP hD hS hl.1 rfl (Nat.le_of_ble_eq_true rfl) dX3_findWord_14 (fun H locs hP hD hS hz_9 => ?_)
    refine lv_if_eq (tgt := 22) hx hb dX3_findWord_17 (by decide) (fun c_10 => ?_) (fun c_10 => ?_)
    · have h := ob_t c_10 h
      refine lv_aload_n hx hb dX3_findWord_22 rfl (lv_at hl 0 rfl) ?_
      refine va_ldcS hx hb hown (show vk_R RX3 154 "home" (kn 2) s from hE.2.2.2.2.1 2 (by decide)) dX3_findWord_23 ?_
      obtain ⟨r_12, S_13, hc_11, h⟩ := ob_2s h
      refine km_cVz (As := [.ref (kn 2)]) (rest := []) C (kX3_spells hEE (by decide) hc_11) (cwV 1 hts gX3_findWord_X3_spells rfl rfl rfl (by decide +kernel) ⟨(Nat.le_of_ble_eq_true rfl), (Nat.le_of_ble_eq_true rfl)⟩) rw_Tape rfl rfl rfl hP hD hS hl.1 rfl (Nat.le_of_ble_eq_true rfl) dX3_findWord_25 (fun H locs hP hD hS hz_14 => ?_)
      refine lv_if_eq (tgt := 34) hx hb dX3_findWord_28 (by decide) (fun c_15 => ?_) (fun c_15 => ?_)
      · have h := ob_t c_15 h
        refine lv_aload_n hx hb dX3_findWord_34 rfl (lv_at hl 0 rfl) ?_
        refine va_ldcS hx hb hown (show vk_R RX3 156 "sale" (kn 3) s from hE.2.2.2.2.1 3 (by decide)) dX3_findWord_35 ?_
        obtain ⟨r_17, S_18, hc_16, h⟩ := ob_2s h
        refine km_cVz (As := [.ref (kn 3)]) (rest := []) C (kX3_spells hEE (by decide) hc_16) (cwV 1 hts gX3_findWord_X3_spells rfl rfl rfl (by decide +kernel) ⟨(Nat.le_of_ble_eq_true rfl), (Nat.le_of_ble_eq_true rfl)⟩) rw_Tape rfl rfl rfl hP hD hS hl.1 rfl (Nat.le_of_ble_eq_true rfl) dX3_findWord_37 (fun H locs hP hD hS hz_19 => ?_)
        refine lv_if_eq (tgt := 48) hx hb dX3_findWord_40 (by decide) (fun c_20 => ?_) (fun c_20 => ?_)
        · have h := ob_t c_20 h
          refine lv_iconst (v := 1) hx hb dX3_findWord_48 (by decide) ?_
          obtain ⟨rfl, rfl⟩ := ob_w h
          exact km_iret C hP hD hS dX3_findWord_49
        · have h := ob_f c_20 h
          refine lv_bipush (v := 7) hx hb dX3_findWord_43 (by decide) ?_
          refine lv_goto (tgt := 49) hx hb dX3_findWord_45 (by decide) ?_
          obtain ⟨rfl, rfl⟩ := ob_w h
          exact km_iret C hP hD hS dX3_findWord_49
      · have h := ob_f c_15 h
        refine lv_bipush (v := 6) hx hb dX3_findWord_31 (by decide) ?_
        obtain ⟨rfl, rfl⟩ := ob_w h
        exact km_iret C hP hD hS dX3_findWord_33
    · have h := ob_f c_10 h
      refine lv_iconst (v := 5) hx hb dX3_findWord_20 (by decide) ?_
      obtain ⟨rfl, rfl⟩ := ob_w h
      exact km_iret C hP hD hS dX3_findWord_21
  · have h := ob_f c_5 h
    refine lv_iconst (v := 4) hx hb dX3_findWord_9 (by decide) ?_
    obtain ⟨rfl, rfl⟩ := ob_w h
    exact km_iret C hP hD hS dX3_findWord_10
def fX3_readRun_L7 : Nat → Int32 → RSt → Option (Int32 × RSt)
  | 0, _, _ => none
  | n + 1, x1, S => (if (st_i S 45) ≤ (st_i S 49) then (some (x1, S)) else (ob_in (st_i S 49) 540 (ob_2 (fX3_isOfRun (st_a S 112 (st_i S 49).toNatClampNeg) S) fun r_4 S_5 => (if r_4 = 0 then (some (x1, S_5)) else (ob_in (st_i S_5 49) 540 (ob_2 (fX3_isDigit (st_a S_5 112 (st_i S_5 49).toNatClampNeg) S_5) fun r_10 S_11 => (ob_j (fun (vJ_13_1 : Int32) (S_14 : RSt) => (fX3_readRun_L7 n vJ_13_1 (st_si S_14 49 ((st_i S_14 49) + (1 : Int32))))) fun tJ_13 => (if r_10 = 0 then (tJ_13 x1 S_11) else (ob_in (st_i S_11 49) 540 (tJ_13 (x1 + (1 : Int32)) (st_si S_11 51 (((st_i S_11 51) * (10 : Int32)) + ((st_a S_11 112 (st_i S_11 49).toNatClampNeg) - (48 : Int32))))))))))))))
def fX3_readRun (S : RSt) : Option (RSt) := (ob_2 (fX3_readRun_L7 1000 (0 : Int32) (st_si S 51 (0 : Int32))) fun o_20 S_19 => (if o_20 = 0 then (ob_2 (fX3_findWord S_19) fun r_25 S_26 => (some (st_si S_26 50 r_25))) else (if o_20 = ((st_i S_19 49) - (st_i S_19 48)) then (if (3 : Int32) < o_20 then (some (st_si S_19 50 (1 : Int32))) else (some (st_si S_19 50 (2 : Int32)))) else (some (st_si S_19 50 (1 : Int32))))))
abbrev rmX3_readRun : Room := { frames := 6, cells := 0, slots := 0, locals := 127 }
theorem nf_X3_readRun_f93 : Cond.fieldLink RX3 93 "RepeatIndex$Tape" "value" "I" ∈ wsX3_readRun := by decide +kernel
theorem ni_X3_readRun_X3 : ∀ w ∈ u_ws RX3 TX3 11, w ∈ wsX3_readRun := by decide +kernel
theorem nf_X3_readRun_f37 : Cond.fieldLink RX3 37 "RepeatIndex$Tape" "at" "I" ∈ wsX3_readRun := by decide +kernel
theorem nf_X3_readRun_f22 : Cond.fieldLink RX3 22 "RepeatIndex$Tape" "length" "I" ∈ wsX3_readRun := by decide +kernel
theorem nf_X3_readRun_f18 : Cond.fieldLink RX3 18 "RepeatIndex$Tape" "bytes" "[B" ∈ wsX3_readRun := by decide +kernel
theorem nf_X3_readRun_f127 : Cond.fieldLink RX3 127 "RepeatIndex$Tape" "begin" "I" ∈ wsX3_readRun := by decide +kernel
theorem nf_X3_readRun_f46 : Cond.fieldLink RX3 46 "RepeatIndex$Tape" "kind" "I" ∈ wsX3_readRun := by decide +kernel
set_option maxHeartbeats 4000000 in
set_option maxRecDepth 100000 in
theorem kX3_readRun_L7 {l : Launch} {D : va_G} {cy : Nat → ClassId} {ad : Nat → Nat} {kn kv : Nat → Nat} {p : Program} {e : Env} {s : State} {m : MethodId} {args : Array Value} {below : List Frame} {meth : Method} {c : Code} {A : Nat → Prop} {Q : State → Prop} (C : km_C p s m args meth c cX3_readRun 2 RX3 wsX3_readRun none D (rw_t cy) (ke_R kn kv) A) : ∀ (n : Nat) (x1 : Int32) (S : RSt) (o1 : Int32) (S' : RSt) (h : fX3_readRun_L7 n x1 S = some (o1, S')) {H : Heap} {locs : List Loc} {ls : Array Slot} (hP : va_P D vwCl ((rw_w cy ad) S) H) (hD : va_D A ((rw_w cy ad) S)) (hS : va_S A s.heap H locs) (hl : lv_has ls 2 [(0, .ref (ad 16)), (1, .int x1)]) (kx0 : ∀ (H : Heap) (locs : List Loc) (ls : Array Slot), va_P D vwCl ((rw_w cy ad) S') H → va_D A ((rw_w cy ad) S') → va_S A s.heap H locs → lv_has ls 2 [(0, .ref (ad 16)), (1, .int o1)] → W p l e rmX3_readRun s m args below meth c H locs 0 0 Q (F0 m 88 ls [])), W p l e rmX3_readRun s m args below meth c H locs 0 0 Q (F0 m 7 ls []) := by
  obtain ⟨⟨hx, hb, hml, hown, hts⟩, hr, hlk, hK, hA, hE, hEE⟩ := id C
  intro n
  induction n with
  | zero =>
    intro x1 S o1 S' h
    rw [fX3_readRun_L7] at h
    cases h
  | succ n ih =>
    intro x1 S o1 S' h H locs ls hP hD hS hl kx0
    rw [fX3_readRun_L7] at h
    refine lv_aload_n hx hb dX3_readRun_7 rfl (lv_at hl 0 rfl) ?_
    refine va_get (D := D) (ci := 3) (v := .int (st_i S 49)) (C := RX3) (T := TX3) (N := 11) hx hb hts ni_X3_readRun_X3 hown hK hP 16 rw_Tape rfl 6 (by decide) (hts _ nf_X3_readRun_f37) (fun _ h9 => h9) rfl dX3_readRun_8 ?_
    refine lv_aload_n hx hb dX3_readRun_11 rfl (lv_at hl 0 rfl) ?_
    refine va_get (D := D) (ci := 3) (v := .int (st_i S 45)) (C := RX3) (T := TX3) (N := 11) hx hb hts ni_X3_readRun_X3 hown hK hP 16 rw_Tape rfl 0 (by decide) (hts _ nf_X3_readRun_f22) (fun _ h9 => h9) rfl dX3_readRun_12 ?_
    refine lv_icmp_ge (tgt := 88) hx hb dX3_readRun_15 (by decide) (fun c_1 => ?_) (fun c_1 => ?_)
    · have h := ob_t c_1 h
      cases h
      exact kx0 _ _ _ hP hD hS (lv_sub hl [0, 1] rfl)
    · have h := ob_f c_1 h
      refine lv_aload_n hx hb dX3_readRun_18 rfl (lv_at hl 0 rfl) ?_
      refine va_get (D := D) (ci := 3) (v := .ref (ad 155)) (C := RX3) (T := TX3) (N := 11) hx hb hts ni_X3_readRun_X3 hown hK hP 16 rw_Tape rfl 5 (by decide) (hts _ nf_X3_readRun_f18) (fun _ h9 => h9) rfl dX3_readRun_19 ?_
      refine lv_aload_n hx hb dX3_readRun_22 rfl (lv_at hl 0 rfl) ?_
      refine va_get (D := D) (ci := 3) (v := .int (st_i S 49)) (C := RX3) (T := TX3) (N := 11) hx hb hts ni_X3_readRun_X3 hown hK hP 16 rw_Tape rfl 6 (by decide) (hts _ nf_X3_readRun_f37) (fun _ h9 => h9) rfl dX3_readRun_23 ?_
      obtain ⟨hv_2, h⟩ := ob_in_s h
      refine va_bald hx hb hK hP 155 2 rw_bytes rfl hv_2 dX3_readRun_26 ?_
      obtain ⟨r_4, S_5, hc_3, h⟩ := ob_2s h
      refine km_cSz (As := [.int (st_a S 112 (st_i S 49).toNatClampNeg)]) (rest := []) C (kX3_isOfRun hEE hc_3) (va_cwS 1 hts gX3_readRun_X3_isOfRun rfl rfl rfl (by decide +kernel) ⟨(Nat.le_of_ble_eq_true rfl), (Nat.le_of_ble_eq_true rfl)⟩) rfl hP hD hS hl.1 rfl (Nat.le_of_ble_eq_true rfl) dX3_readRun_27 (fun H locs hP hD hS hz_6 => ?_)
      refine lv_if_eq (tgt := 88) hx hb dX3_readRun_30 (by decide) (fun c_7 => ?_) (fun c_7 => ?_)
      · have h := ob_t c_7 h
        cases h
        exact kx0 _ _ _ hP hD hS (lv_sub hl [0, 1] rfl)
      · have h := ob_f c_7 h
        refine lv_aload_n hx hb dX3_readRun_33 rfl (lv_at hl 0 rfl) ?_
        refine va_get (D := D) (ci := 3) (v := .ref (ad 155)) (C := RX3) (T := TX3) (N := 11) hx hb hts ni_X3_readRun_X3 hown hK hP 16 rw_Tape rfl 5 (by decide) (hts _ nf_X3_readRun_f18) (fun _ h9 => h9) rfl dX3_readRun_34 ?_
        refine lv_aload_n hx hb dX3_readRun_37 rfl (lv_at hl 0 rfl) ?_
        refine va_get (D := D) (ci := 3) (v := .int (st_i S_5 49)) (C := RX3) (T := TX3) (N := 11) hx hb hts ni_X3_readRun_X3 hown hK hP 16 rw_Tape rfl 6 (by decide) (hts _ nf_X3_readRun_f37) (fun _ h9 => h9) rfl dX3_readRun_38 ?_
        obtain ⟨hv_8, h⟩ := ob_in_s h
        refine va_bald hx hb hK hP 155 2 rw_bytes rfl hv_8 dX3_readRun_41 ?_
        obtain ⟨r_10, S_11, hc_9, h⟩ := ob_2s h
        refine km_cSz (As := [.int (st_a S_5 112 (st_i S_5 49).toNatClampNeg)]) (rest := []) C (kX3_isDigit hEE hc_9) (va_cwS 1 hts gX3_readRun_X3_isDigit rfl rfl rfl (by decide +kernel) ⟨(Nat.le_of_ble_eq_true rfl), (Nat.le_of_ble_eq_true rfl)⟩) rfl hP hD hS hl.1 rfl (Nat.le_of_ble_eq_true rfl) dX3_readRun_42 (fun H locs hP hD hS hz_12 => ?_)
        obtain ⟨tJ_13, hT_15, h⟩ := ob_js h
        have kJ_13 : ∀ (vJ_13_1 : Int32) (S_14 : RSt) (_ : tJ_13 vJ_13_1 S_14 = some (o1, S')) (H : Heap) (locs : List Loc) (ls : Array Slot), va_P D vwCl ((rw_w cy ad) S_14) H → va_D A ((rw_w cy ad) S_14) → va_S A s.heap H locs → lv_has ls 2 [(0, .ref (ad 16)), (1, .int vJ_13_1)] → W p l e rmX3_readRun s m args below meth c H locs 0 0 Q (F0 m 75 ls []) := by
          intro vJ_13_1 S_14 h H locs ls hP hD hS hl
          rw [← hT_15] at h
          refine lv_aload_n hx hb dX3_readRun_75 rfl (lv_at hl 0 rfl) ?_
          refine lv_dup hx hb dX3_readRun_76 rfl ?_
          refine va_get (D := D) (ci := 3) (v := .int (st_i S_14 49)) (C := RX3) (T := TX3) (N := 11) hx hb hts ni_X3_readRun_X3 hown hK hP 16 rw_Tape rfl 6 (by decide) (hts _ nf_X3_readRun_f37) (fun _ h9 => h9) rfl dX3_readRun_77 ?_
          refine lv_iconst (v := 1) hx hb dX3_readRun_80 (by decide) ?_
          refine lv_iadd hx hb dX3_readRun_81 ?_
          refine va_put (D := D) (ci := 3) (v := .int ((st_i S_14 49) + (1 : Int32))) (ty := .int) (C := RX3) (T := TX3) (N := 11) hx hb hts ni_X3_readRun_X3 tyX3 tyX3_ok nmX3 hown hK hP hD hS 16 rw_Tape rfl 6 (by decide) (hts _ nf_X3_readRun_f37) (fun _ h9 => h9) rfl (by decide +kernel) rfl rfl (Nat.le_of_ble_eq_true rfl) dX3_readRun_82 (fun H locs hP hD hS => ?_)
          have hP := st_ps rw_s_Tape_at hP
          have hD := st_ds rw_s_Tape_at hD
          refine lv_goto (tgt := 7) hx hb dX3_readRun_85 (by decide) ?_
          exact ih _ _ _ _ h hP hD hS (lv_sub hl [0, 1] rfl) kx0
        refine lv_if_eq (tgt := 75) hx hb dX3_readRun_45 (by decide) (fun c_16 => ?_) (fun c_16 => ?_)
        · have h := ob_t c_16 h
          exact kJ_13 _ _ h _ _ _ hP hD hS (lv_sub hl [0, 1] rfl)
        · have h := ob_f c_16 h
          refine lv_iinc (v := x1 + (1 : Int32)) (lv' := [(1, .int (x1 + (1 : Int32))), (0, .ref (ad 16))]) hx hb dX3_readRun_48 hl (k := 1) rfl (congrArg (fun z => x1 + z) (by decide)) (by decide) rfl (fun ls hl => ?_)
          refine lv_aload_n hx hb dX3_readRun_51 rfl (lv_at hl 1 rfl) ?_
          refine lv_aload_n hx hb dX3_readRun_52 rfl (lv_at hl 1 rfl) ?_
          refine va_get (D := D) (ci := 3) (v := .int (st_i S_11 51)) (C := RX3) (T := TX3) (N := 11) hx hb hts ni_X3_readRun_X3 hown hK hP 16 rw_Tape rfl 8 (by decide) (hts _ nf_X3_readRun_f93) (fun _ h9 => h9) rfl dX3_readRun_53 ?_
          refine lv_bipush (v := 10) hx hb dX3_readRun_56 (by decide) ?_
          refine lv_imul hx hb dX3_readRun_58 ?_
          refine lv_aload_n hx hb dX3_readRun_59 rfl (lv_at hl 1 rfl) ?_
          refine va_get (D := D) (ci := 3) (v := .ref (ad 155)) (C := RX3) (T := TX3) (N := 11) hx hb hts ni_X3_readRun_X3 hown hK hP 16 rw_Tape rfl 5 (by decide) (hts _ nf_X3_readRun_f18) (fun _ h9 => h9) rfl dX3_readRun_60 ?_
          refine lv_aload_n hx hb dX3_readRun_63 rfl (lv_at hl 1 rfl) ?_
          refine va_get (D := D) (ci := 3) (v := .int (st_i S_11 49)) (C := RX3) (T := TX3) (N := 11) hx hb hts ni_X3_readRun_X3 hown hK hP 16 rw_Tape rfl 6 (by decide) (hts _ nf_X3_readRun_f37) (fun _ h9 => h9) rfl dX3_readRun_64 ?_
          obtain ⟨hv_17, h⟩ := ob_in_s h
          refine va_bald hx hb hK hP 155 2 rw_bytes rfl hv_17 dX3_readRun_67 ?_
          refine lv_bipush (v := 48) hx hb dX3_readRun_68 (by decide) ?_
          refine lv_isub hx hb dX3_readRun_70 ?_
          refine lv_iadd hx hb dX3_readRun_71 ?_
          refine va_put (D := D) (ci := 3) (v := .int (((st_i S_11 51) * (10 : Int32)) + ((st_a S_11 112 (st_i S_11 49).toNatClampNeg) - (48 : Int32)))) (ty := .int) (C := RX3) (T := TX3) (N := 11) hx hb hts ni_X3_readRun_X3 tyX3 tyX3_ok nmX3 hown hK hP hD hS 16 rw_Tape rfl 8 (by decide) (hts _ nf_X3_readRun_f93) (fun _ h9 => h9) rfl (by decide +kernel) rfl rfl (Nat.le_of_ble_eq_true rfl) dX3_readRun_72 (fun H locs hP hD hS => ?_)
          have hP := st_ps rw_s_Tape_value hP
          have hD := st_ds rw_s_Tape_value hD
          exact kJ_13 _ _ h _ _ _ hP hD hS (lv_sub hl [1, 0] rfl)
set_option maxHeartbeats 4000000 in
set_option maxRecDepth 100000 in
theorem kX3_readRun {l : Launch} {D : va_G} {cy : Nat → ClassId} {ad : Nat → Nat} {kn kv : Nat → Nat} (hEE : km_E (ke_R kn kv)) {S : RSt} {S' : RSt} (h : fX3_readRun S = some S') : km_v l D (rw_t cy) (rw_w cy ad) (ke_R kn kv) yX3_readRun wsX3_readRun rmX3_readRun [.ref (ad 16)] S S' := by
  refine km_v_in (cc := cX3_readRun) (nL := 2) hEE (by decide) rfl (Nat.le_of_ble_eq_true rfl) ?_
  intro p e s m below meth c A H ls C hP hD hS hl
  have C : km_C p s m _ meth c cX3_readRun 2 RX3 wsX3_readRun none D (rw_t cy) (ke_R kn kv) A := C
  obtain ⟨⟨hx, hb, hml, hown, hts⟩, hr, hlk, hK, hA, hE, hEE⟩ := id C
  have hl : lv_has ls 2 [(0, .ref (ad 16))] := hl
  unfold fX3_readRun at h
  refine lv_iconst (v := 0) hx hb dX3_readRun_0 (by decide) ?_
  refine lv_istore_n (lv' := [(1, .int (0 : Int32)), (0, .ref (ad 16))]) hx hb dX3_readRun_1 rfl hl (by decide) rfl (fun ls hl => ?_)
  refine lv_aload_n hx hb dX3_readRun_2 rfl (lv_at hl 1 rfl) ?_
  refine lv_iconst (v := 0) hx hb dX3_readRun_3 (by decide) ?_
  refine va_put (D := D) (ci := 3) (v := .int (0 : Int32)) (ty := .int) (C := RX3) (T := TX3) (N := 11) hx hb hts ni_X3_readRun_X3 tyX3 tyX3_ok nmX3 hown hK hP hD hS 16 rw_Tape rfl 8 (by decide) (hts _ nf_X3_readRun_f93) (fun _ h9 => h9) rfl (by decide +kernel) rfl rfl (Nat.le_of_ble_eq_true rfl) dX3_readRun_4 (fun H locs hP hD hS => ?_)
  have hP := st_ps rw_s_Tape_value hP
  have hD := st_ds rw_s_Tape_value hD
  obtain ⟨o_20, S_19, hq_18, h⟩ := ob_2s h
  refine kX3_readRun_L7  C _ _ _ _ _ hq_18 hP hD hS (lv_sub hl [1, 0] rfl) (fun H locs ls hP hD hS hl => ?_)
  refine lv_iload_n hx hb dX3_readRun_88 rfl (lv_at hl 1 rfl) ?_
  refine lv_if_ne (tgt := 103) hx hb dX3_readRun_89 (by decide) (fun c_21 => ?_) (fun c_21 => ?_)
  · have h := ob_f c_21 h
    refine lv_aload_n hx hb dX3_readRun_103 rfl (lv_at hl 0 rfl) ?_
    refine lv_iload_n hx hb dX3_readRun_104 rfl (lv_at hl 1 rfl) ?_
    refine lv_aload_n hx hb dX3_readRun_105 rfl (lv_at hl 0 rfl) ?_
    refine va_get (D := D) (ci := 3) (v := .int (st_i S_19 49)) (C := RX3) (T := TX3) (N := 11) hx hb hts ni_X3_readRun_X3 hown hK hP 16 rw_Tape rfl 6 (by decide) (hts _ nf_X3_readRun_f37) (fun _ h9 => h9) rfl dX3_readRun_106 ?_
    refine lv_aload_n hx hb dX3_readRun_109 rfl (lv_at hl 0 rfl) ?_
    refine va_get (D := D) (ci := 3) (v := .int (st_i S_19 48)) (C := RX3) (T := TX3) (N := 11) hx hb hts ni_X3_readRun_X3 hown hK hP 16 rw_Tape rfl 3 (by decide) (hts _ nf_X3_readRun_f127) (fun _ h9 => h9) rfl dX3_readRun_110 ?_
    refine lv_isub hx hb dX3_readRun_113 ?_
    refine lv_icmp_ne (tgt := 126) hx hb dX3_readRun_114 (by decide) (fun c_22 => ?_) (fun c_22 => ?_)
    · have h := ob_f c_22 h
      refine lv_iconst (v := 1) hx hb dX3_readRun_126 (by decide) ?_
      refine va_put (D := D) (ci := 3) (v := .int (1 : Int32)) (ty := .int) (C := RX3) (T := TX3) (N := 11) hx hb hts ni_X3_readRun_X3 tyX3 tyX3_ok nmX3 hown hK hP hD hS 16 rw_Tape rfl 7 (by decide) (hts _ nf_X3_readRun_f46) (fun _ h9 => h9) rfl (by decide +kernel) rfl rfl (Nat.le_of_ble_eq_true rfl) dX3_readRun_127 (fun H locs hP hD hS => ?_)
      have hP := st_ps rw_s_Tape_kind hP
      have hD := st_ds rw_s_Tape_kind hD
      obtain rfl := ob_v h
      exact km_vret C hP hD hS dX3_readRun_130
    · have h := ob_t c_22 h
      refine lv_iload_n hx hb dX3_readRun_117 rfl (lv_at hl 1 rfl) ?_
      refine lv_iconst (v := 3) hx hb dX3_readRun_118 (by decide) ?_
      refine lv_icmp_gt (tgt := 126) hx hb dX3_readRun_119 (by decide) (fun c_23 => ?_) (fun c_23 => ?_)
      · have h := ob_t c_23 h
        refine lv_iconst (v := 1) hx hb dX3_readRun_126 (by decide) ?_
        refine va_put (D := D) (ci := 3) (v := .int (1 : Int32)) (ty := .int) (C := RX3) (T := TX3) (N := 11) hx hb hts ni_X3_readRun_X3 tyX3 tyX3_ok nmX3 hown hK hP hD hS 16 rw_Tape rfl 7 (by decide) (hts _ nf_X3_readRun_f46) (fun _ h9 => h9) rfl (by decide +kernel) rfl rfl (Nat.le_of_ble_eq_true rfl) dX3_readRun_127 (fun H locs hP hD hS => ?_)
        have hP := st_ps rw_s_Tape_kind hP
        have hD := st_ds rw_s_Tape_kind hD
        obtain rfl := ob_v h
        exact km_vret C hP hD hS dX3_readRun_130
      · have h := ob_f c_23 h
        refine lv_iconst (v := 2) hx hb dX3_readRun_122 (by decide) ?_
        refine lv_goto (tgt := 127) hx hb dX3_readRun_123 (by decide) ?_
        refine va_put (D := D) (ci := 3) (v := .int (2 : Int32)) (ty := .int) (C := RX3) (T := TX3) (N := 11) hx hb hts ni_X3_readRun_X3 tyX3 tyX3_ok nmX3 hown hK hP hD hS 16 rw_Tape rfl 7 (by decide) (hts _ nf_X3_readRun_f46) (fun _ h9 => h9) rfl (by decide +kernel) rfl rfl (Nat.le_of_ble_eq_true rfl) dX3_readRun_127 (fun H locs hP hD hS => ?_)
        have hP := st_ps rw_s_Tape_kind hP
        have hD := st_ds rw_s_Tape_kind hD
        obtain rfl := ob_v h
        exact km_vret C hP hD hS dX3_readRun_130
  · have h := ob_t c_21 h
    refine lv_aload_n hx hb dX3_readRun_92 rfl (lv_at hl 0 rfl) ?_
    refine lv_aload_n hx hb dX3_readRun_93 rfl (lv_at hl 0 rfl) ?_
    obtain ⟨r_25, S_26, hc_24, h⟩ := ob_2s h
    refine km_cVi (As := []) (rest := [.ref (ad 16)]) C (kX3_findWord hEE hc_24) (cwV 0 hts gX3_readRun_X3_findWord rfl rfl rfl (by decide +kernel) ⟨(Nat.le_of_ble_eq_true rfl), (Nat.le_of_ble_eq_true rfl)⟩) rw_Tape rfl rfl rfl hP hD hS hl.1 rfl (Nat.le_of_ble_eq_true rfl) dX3_readRun_94 (fun H locs hP hD hS => ?_)
    refine va_put (D := D) (ci := 3) (v := .int r_25) (ty := .int) (C := RX3) (T := TX3) (N := 11) hx hb hts ni_X3_readRun_X3 tyX3 tyX3_ok nmX3 hown hK hP hD hS 16 rw_Tape rfl 7 (by decide) (hts _ nf_X3_readRun_f46) (fun _ h9 => h9) rfl (by decide +kernel) rfl rfl (Nat.le_of_ble_eq_true rfl) dX3_readRun_97 (fun H locs hP hD hS => ?_)
    have hP := st_ps rw_s_Tape_kind hP
    have hD := st_ds rw_s_Tape_kind hD
    refine lv_goto (tgt := 130) hx hb dX3_readRun_100 (by decide) ?_
    obtain rfl := ob_v h
    exact km_vret C hP hD hS dX3_readRun_130
def fX3_step (S : RSt) : Option (RSt) := (ob_1 (fX3_skipBlanks S) fun S_3 => (ob_j (fun (S_5 : RSt) => (some (st_si (st_si S_5 50 (0 : Int32)) 48 (if (500 : Int32) < (st_i (st_si S_5 50 (0 : Int32)) 45) then (500 : Int32) else (st_i (st_si S_5 50 (0 : Int32)) 45))))) fun tJ_4 => (if (st_i (st_si S_3 48 (st_i S_3 49)) 45) ≤ (st_i (st_si S_3 48 (st_i S_3 49)) 49) then (tJ_4 (st_si S_3 48 (st_i S_3 49))) else (if (st_i (st_si S_3 48 (st_i S_3 49)) 49) < (500 : Int32) then (ob_in (st_i (st_si S_3 48 (st_i S_3 49)) 49) 540 (ob_2 (fX3_isOfRun (st_a (st_si S_3 48 (st_i S_3 49)) 112 (st_i (st_si S_3 48 (st_i S_3 49)) 49).toNatClampNeg) (st_si S_3 48 (st_i S_3 49))) fun r_11 S_12 => (if r_11 = 0 then (ob_in (st_i S_12 49) 540 (ob_j (fun (sJ_16_0 : Int32) (S_17 : RSt) => (some (st_si (st_si S_17 50 sJ_16_0) 49 ((st_i (st_si S_17 50 sJ_16_0) 49) + (1 : Int32))))) fun tJ_16 => (if (st_a S_12 112 (st_i S_12 49).toNatClampNeg) = (59 : Int32) then (tJ_16 (3 : Int32) S_12) else (tJ_16 (1 : Int32) S_12)))) else (ob_1 (fX3_readRun S_12) fun S_22 => (some S_22))))) else (tJ_4 (st_si S_3 48 (st_i S_3 49)))))))
abbrev rmX3_step : Room := { frames := 7, cells := 0, slots := 0, locals := 148 }
theorem nf_X3_step_f37 : Cond.fieldLink RX3 37 "RepeatIndex$Tape" "at" "I" ∈ wsX3_step := by decide +kernel
theorem ni_X3_step_X3 : ∀ w ∈ u_ws RX3 TX3 11, w ∈ wsX3_step := by decide +kernel
theorem nf_X3_step_f127 : Cond.fieldLink RX3 127 "RepeatIndex$Tape" "begin" "I" ∈ wsX3_step := by decide +kernel
theorem nf_X3_step_f22 : Cond.fieldLink RX3 22 "RepeatIndex$Tape" "length" "I" ∈ wsX3_step := by decide +kernel
theorem nf_X3_step_f46 : Cond.fieldLink RX3 46 "RepeatIndex$Tape" "kind" "I" ∈ wsX3_step := by decide +kernel
theorem nf_X3_step_m130 : Cond.methodLink RX3 130 Lib.Math.min.name ∈ wsX3_step := by decide +kernel
theorem nf_X3_step_smin : Cond.static Lib.Math.min.name ∈ wsX3_step := by decide +kernel
theorem nf_X3_step_iMath : Cond.initialized "java/lang/Math" ∈ wsX3_step := by decide +kernel
theorem nf_X3_step_cmin : Cond.code Lib.Math.min.name Lib.Math.min.code 2 (some .int) ∈ wsX3_step := List.mem_of_getElem? (i := 8) rfl
theorem nf_X3_step_f18 : Cond.fieldLink RX3 18 "RepeatIndex$Tape" "bytes" "[B" ∈ wsX3_step := by decide +kernel
set_option maxHeartbeats 4000000 in
set_option maxRecDepth 100000 in
theorem kX3_step {l : Launch} {D : va_G} {cy : Nat → ClassId} {ad : Nat → Nat} {kn kv : Nat → Nat} (hEE : km_E (ke_R kn kv)) {S : RSt} {S' : RSt} (h : fX3_step S = some S') : km_v l D (rw_t cy) (rw_w cy ad) (ke_R kn kv) yX3_step wsX3_step rmX3_step [.ref (ad 16)] S S' := by
  refine km_v_in (cc := cX3_step) (nL := 1) hEE (by decide) rfl (Nat.le_of_ble_eq_true rfl) ?_
  intro p e s m below meth c A H ls C hP hD hS hl
  have C : km_C p s m _ meth c cX3_step 1 RX3 wsX3_step none D (rw_t cy) (ke_R kn kv) A := C
  obtain ⟨⟨hx, hb, hml, hown, hts⟩, hr, hlk, hK, hA, hE, hEE⟩ := id C
  have hl : lv_has ls 1 [(0, .ref (ad 16))] := hl
  unfold fX3_step at h
  refine lv_aload_n hx hb dX3_step_0 rfl (lv_at hl 0 rfl) ?_
  obtain ⟨S_3, hc_1, h⟩ := ob_1s h
  refine km_cVv (As := []) (rest := []) C (kX3_skipBlanks hEE hc_1) (cwV 0 hts gX3_step_X3_skipBlanks rfl rfl rfl (by decide +kernel) ⟨(Nat.le_of_ble_eq_true rfl), (Nat.le_of_ble_eq_true rfl)⟩) rw_Tape rfl rfl rfl hP hD hS hl.1 rfl (Nat.le_of_ble_eq_true rfl) dX3_step_1 (fun H locs hP hD hS => ?_)
  refine lv_aload_n hx hb dX3_step_4 rfl (lv_at hl 0 rfl) ?_
  refine lv_aload_n hx hb dX3_step_5 rfl (lv_at hl 0 rfl) ?_
  refine va_get (D := D) (ci := 3) (v := .int (st_i S_3 49)) (C := RX3) (T := TX3) (N := 11) hx hb hts ni_X3_step_X3 hown hK hP 16 rw_Tape rfl 6 (by decide) (hts _ nf_X3_step_f37) (fun _ h9 => h9) rfl dX3_step_6 ?_
  refine va_put (D := D) (ci := 3) (v := .int (st_i S_3 49)) (ty := .int) (C := RX3) (T := TX3) (N := 11) hx hb hts ni_X3_step_X3 tyX3 tyX3_ok nmX3 hown hK hP hD hS 16 rw_Tape rfl 3 (by decide) (hts _ nf_X3_step_f127) (fun _ h9 => h9) rfl (by decide +kernel) rfl rfl (Nat.le_of_ble_eq_true rfl) dX3_step_9 (fun H locs hP hD hS => ?_)
  have hP := st_ps rw_s_Tape_begin hP
  have hD := st_ds rw_s_Tape_begin hD
  refine lv_aload_n hx hb dX3_step_12 rfl (lv_at hl 0 rfl) ?_
  refine va_get (D := D) (ci := 3) (v := .int (st_i (st_si S_3 48 (st_i S_3 49)) 49)) (C := RX3) (T := TX3) (N := 11) hx hb hts ni_X3_step_X3 hown hK hP 16 rw_Tape rfl 6 (by decide) (hts _ nf_X3_step_f37) (fun _ h9 => h9) rfl dX3_step_13 ?_
  refine lv_aload_n hx hb dX3_step_16 rfl (lv_at hl 0 rfl) ?_
  refine va_get (D := D) (ci := 3) (v := .int (st_i (st_si S_3 48 (st_i S_3 49)) 45)) (C := RX3) (T := TX3) (N := 11) hx hb hts ni_X3_step_X3 hown hK hP 16 rw_Tape rfl 0 (by decide) (hts _ nf_X3_step_f22) (fun _ h9 => h9) rfl dX3_step_17 ?_
  obtain ⟨tJ_4, hT_6, h⟩ := ob_js h
  have kJ_4 : ∀ (S_5 : RSt) (_ : tJ_4 S_5 = some S') (H : Heap) (locs : List Loc) (ls : Array Slot), va_P D vwCl ((rw_w cy ad) S_5) H → va_D A ((rw_w cy ad) S_5) → va_S A s.heap H locs → lv_has ls 1 [(0, .ref (ad 16))] → W p l e rmX3_step s m ([.ref (ad 16)] : List Value).toArray below meth c H locs 0 0 (km_Qv below D (rw_t cy) (rw_w cy ad) A ([.ref (ad 16)] : List Value).toArray s S') (F0 m 33 ls []) := by
    intro S_5 h H locs ls hP hD hS hl
    rw [← hT_6] at h
    refine lv_aload_n hx hb dX3_step_33 rfl (lv_at hl 0 rfl) ?_
    refine lv_iconst (v := 0) hx hb dX3_step_34 (by decide) ?_
    refine va_put (D := D) (ci := 3) (v := .int (0 : Int32)) (ty := .int) (C := RX3) (T := TX3) (N := 11) hx hb hts ni_X3_step_X3 tyX3 tyX3_ok nmX3 hown hK hP hD hS 16 rw_Tape rfl 7 (by decide) (hts _ nf_X3_step_f46) (fun _ h9 => h9) rfl (by decide +kernel) rfl rfl (Nat.le_of_ble_eq_true rfl) dX3_step_35 (fun H locs hP hD hS => ?_)
    have hP := st_ps rw_s_Tape_kind hP
    have hD := st_ds rw_s_Tape_kind hD
    refine lv_aload_n hx hb dX3_step_38 rfl (lv_at hl 0 rfl) ?_
    refine lv_aload_n hx hb dX3_step_39 rfl (lv_at hl 0 rfl) ?_
    refine va_get (D := D) (ci := 3) (v := .int (st_i (st_si S_5 50 (0 : Int32)) 45)) (C := RX3) (T := TX3) (N := 11) hx hb hts ni_X3_step_X3 hown hK hP 16 rw_Tape rfl 0 (by decide) (hts _ nf_X3_step_f22) (fun _ h9 => h9) rfl dX3_step_40 ?_
    refine lv_sipush (v := 500) hx hb dX3_step_43 (by decide) ?_
    refine va_mmin hx hb (by rw [hml]; exact hl.1.symm) hown (hts _ nf_X3_step_m130) (hts _ nf_X3_step_smin) (hts _ nf_X3_step_iMath) (hts _ nf_X3_step_cmin) (Nat.le_of_ble_eq_true rfl) (Nat.le_of_ble_eq_true rfl) (Nat.zero_le _) (Nat.zero_le _) dX3_step_46 ?_
    refine va_put (D := D) (ci := 3) (v := .int (if (500 : Int32) < (st_i (st_si S_5 50 (0 : Int32)) 45) then (500 : Int32) else (st_i (st_si S_5 50 (0 : Int32)) 45))) (ty := .int) (C := RX3) (T := TX3) (N := 11) hx hb hts ni_X3_step_X3 tyX3 tyX3_ok nmX3 hown hK hP hD hS 16 rw_Tape rfl 3 (by decide) (hts _ nf_X3_step_f127) (fun _ h9 => h9) rfl (by decide +kernel) rfl rfl (Nat.le_of_ble_eq_true rfl) dX3_step_49 (fun H locs hP hD hS => ?_)
    have hP := st_ps rw_s_Tape_begin hP
    have hD := st_ds rw_s_Tape_begin hD
    refine lv_goto (tgt := 110) hx hb dX3_step_52 (by decide) ?_
    obtain rfl := ob_v h
    exact km_vret C hP hD hS dX3_step_110
  refine lv_icmp_ge (tgt := 33) hx hb dX3_step_20 (by decide) (fun c_7 => ?_) (fun c_7 => ?_)
  · have h := ob_t c_7 h
    exact kJ_4  _ h _ _ _ hP hD hS (lv_sub hl [0] rfl)
  · have h := ob_f c_7 h
    refine lv_aload_n hx hb dX3_step_23 rfl (lv_at hl 0 rfl) ?_
    refine va_get (D := D) (ci := 3) (v := .int (st_i (st_si S_3 48 (st_i S_3 49)) 49)) (C := RX3) (T := TX3) (N := 11) hx hb hts ni_X3_step_X3 hown hK hP 16 rw_Tape rfl 6 (by decide) (hts _ nf_X3_step_f37) (fun _ h9 => h9) rfl dX3_step_24 ?_
    refine lv_sipush (v := 500) hx hb dX3_step_27 (by decide) ?_
    refine lv_icmp_lt (tgt := 55) hx hb dX3_step_30 (by decide) (fun c_8 => ?_) (fun c_8 => ?_)
    · have h := ob_t c_8 h
      refine lv_aload_n hx hb dX3_step_55 rfl (lv_at hl 0 rfl) ?_
      refine va_get (D := D) (ci := 3) (v := .ref (ad 155)) (C := RX3) (T := TX3) (N := 11) hx hb hts ni_X3_step_X3 hown hK hP 16 rw_Tape rfl 5 (by decide) (hts _ nf_X3_step_f18) (fun _ h9 => h9) rfl dX3_step_56 ?_
      refine lv_aload_n hx hb dX3_step_59 rfl (lv_at hl 0 rfl) ?_
      refine va_get (D := D) (ci := 3) (v := .int (st_i (st_si S_3 48 (st_i S_3 49)) 49)) (C := RX3) (T := TX3) (N := 11) hx hb hts ni_X3_step_X3 hown hK hP 16 rw_Tape rfl 6 (by decide) (hts _ nf_X3_step_f37) (fun _ h9 => h9) rfl dX3_step_60 ?_
      obtain ⟨hv_9, h⟩ := ob_in_s h
      refine va_bald hx hb hK hP 155 2 rw_bytes rfl hv_9 dX3_step_63 ?_
      obtain ⟨r_11, S_12, hc_10, h⟩ := ob_2s h
      refine km_cSz (As := [.int (st_a (st_si S_3 48 (st_i S_3 49)) 112 (st_i (st_si S_3 48 (st_i S_3 49)) 49).toNatClampNeg)]) (rest := []) C (kX3_isOfRun hEE hc_10) (va_cwS 1 hts gX3_step_X3_isOfRun rfl rfl rfl (by decide +kernel) ⟨(Nat.le_of_ble_eq_true rfl), (Nat.le_of_ble_eq_true rfl)⟩) rfl hP hD hS hl.1 rfl (Nat.le_of_ble_eq_true rfl) dX3_step_64 (fun H locs hP hD hS hz_13 => ?_)
      refine lv_if_eq (tgt := 77) hx hb dX3_step_67 (by decide) (fun c_14 => ?_) (fun c_14 => ?_)
      · have h := ob_t c_14 h
        refine lv_aload_n hx hb dX3_step_77 rfl (lv_at hl 0 rfl) ?_
        refine lv_aload_n hx hb dX3_step_78 rfl (lv_at hl 0 rfl) ?_
        refine va_get (D := D) (ci := 3) (v := .ref (ad 155)) (C := RX3) (T := TX3) (N := 11) hx hb hts ni_X3_step_X3 hown hK hP 16 rw_Tape rfl 5 (by decide) (hts _ nf_X3_step_f18) (fun _ h9 => h9) rfl dX3_step_79 ?_
        refine lv_aload_n hx hb dX3_step_82 rfl (lv_at hl 0 rfl) ?_
        refine va_get (D := D) (ci := 3) (v := .int (st_i S_12 49)) (C := RX3) (T := TX3) (N := 11) hx hb hts ni_X3_step_X3 hown hK hP 16 rw_Tape rfl 6 (by decide) (hts _ nf_X3_step_f37) (fun _ h9 => h9) rfl dX3_step_83 ?_
        obtain ⟨hv_15, h⟩ := ob_in_s h
        refine va_bald hx hb hK hP 155 2 rw_bytes rfl hv_15 dX3_step_86 ?_
        refine lv_bipush (v := 59) hx hb dX3_step_87 (by decide) ?_
        obtain ⟨tJ_16, hT_18, h⟩ := ob_js h
        have kJ_16 : ∀ (sJ_16_0 : Int32) (S_17 : RSt) (_ : tJ_16 sJ_16_0 S_17 = some S') (H : Heap) (locs : List Loc) (ls : Array Slot), va_P D vwCl ((rw_w cy ad) S_17) H → va_D A ((rw_w cy ad) S_17) → va_S A s.heap H locs → lv_has ls 1 [(0, .ref (ad 16))] → W p l e rmX3_step s m ([.ref (ad 16)] : List Value).toArray below meth c H locs 0 0 (km_Qv below D (rw_t cy) (rw_w cy ad) A ([.ref (ad 16)] : List Value).toArray s S') (F0 m 97 ls [.int sJ_16_0, .ref (ad 16)]) := by
          intro sJ_16_0 S_17 h H locs ls hP hD hS hl
          rw [← hT_18] at h
          refine va_put (D := D) (ci := 3) (v := .int sJ_16_0) (ty := .int) (C := RX3) (T := TX3) (N := 11) hx hb hts ni_X3_step_X3 tyX3 tyX3_ok nmX3 hown hK hP hD hS 16 rw_Tape rfl 7 (by decide) (hts _ nf_X3_step_f46) (fun _ h9 => h9) rfl (by decide +kernel) rfl rfl (Nat.le_of_ble_eq_true rfl) dX3_step_97 (fun H locs hP hD hS => ?_)
          have hP := st_ps rw_s_Tape_kind hP
          have hD := st_ds rw_s_Tape_kind hD
          refine lv_aload_n hx hb dX3_step_100 rfl (lv_at hl 0 rfl) ?_
          refine lv_dup hx hb dX3_step_101 rfl ?_
          refine va_get (D := D) (ci := 3) (v := .int (st_i (st_si S_17 50 sJ_16_0) 49)) (C := RX3) (T := TX3) (N := 11) hx hb hts ni_X3_step_X3 hown hK hP 16 rw_Tape rfl 6 (by decide) (hts _ nf_X3_step_f37) (fun _ h9 => h9) rfl dX3_step_102 ?_
          refine lv_iconst (v := 1) hx hb dX3_step_105 (by decide) ?_
          refine lv_iadd hx hb dX3_step_106 ?_
          refine va_put (D := D) (ci := 3) (v := .int ((st_i (st_si S_17 50 sJ_16_0) 49) + (1 : Int32))) (ty := .int) (C := RX3) (T := TX3) (N := 11) hx hb hts ni_X3_step_X3 tyX3 tyX3_ok nmX3 hown hK hP hD hS 16 rw_Tape rfl 6 (by decide) (hts _ nf_X3_step_f37) (fun _ h9 => h9) rfl (by decide +kernel) rfl rfl (Nat.le_of_ble_eq_true rfl) dX3_step_107 (fun H locs hP hD hS => ?_)
          have hP := st_ps rw_s_Tape_at hP
          have hD := st_ds rw_s_Tape_at hD
          obtain rfl := ob_v h
          exact km_vret C hP hD hS dX3_step_110
        refine lv_icmp_ne (tgt := 96) hx hb dX3_step_89 (by decide) (fun c_19 => ?_) (fun c_19 => ?_)
        · have h := ob_f c_19 h
          refine lv_iconst (v := 1) hx hb dX3_step_96 (by decide) ?_
          exact kJ_16 _ _ h _ _ _ hP hD hS (lv_sub hl [0] rfl)
        · have h := ob_t c_19 h
          refine lv_iconst (v := 3) hx hb dX3_step_92 (by decide) ?_
          refine lv_goto (tgt := 97) hx hb dX3_step_93 (by decide) ?_
          exact kJ_16 _ _ h _ _ _ hP hD hS (lv_sub hl [0] rfl)
      · have h := ob_f c_14 h
        refine lv_aload_n hx hb dX3_step_70 rfl (lv_at hl 0 rfl) ?_
        obtain ⟨S_22, hc_20, h⟩ := ob_1s h
        refine km_cVv (As := []) (rest := []) C (kX3_readRun hEE hc_20) (cwV 0 hts gX3_step_X3_readRun rfl rfl rfl (by decide +kernel) ⟨(Nat.le_of_ble_eq_true rfl), (Nat.le_of_ble_eq_true rfl)⟩) rw_Tape rfl rfl rfl hP hD hS hl.1 rfl (Nat.le_of_ble_eq_true rfl) dX3_step_71 (fun H locs hP hD hS => ?_)
        refine lv_goto (tgt := 110) hx hb dX3_step_74 (by decide) ?_
        obtain rfl := ob_v h
        exact km_vret C hP hD hS dX3_step_110
    · have h := ob_f c_8 h
      exact kJ_4  _ h _ _ _ hP hD hS (lv_sub hl [0] rfl)
def fX3_read_L35 : Nat → Int32 → RSt → Option (RSt)
  | 0, _, _ => none
  | n + 1, x1, S => (if (500 : Int32) < x1 then (some S) else (if (st_i S 50) = 0 then (some S) else (if (st_i S 46) = 0 then (ob_1 (fX3_step S) fun S_9 => (ob_2 (fX3_take S_9) fun r_11 S_12 => (fX3_read_L35 n (x1 + (1 : Int32)) (st_si S_12 46 r_11)))) else (some S))))
def fX3_read (S : RSt) : Option (Int32 × RSt) := (ob_1 (fX0_reset 2 (2 : Int32) S) fun S_3 => (ob_1 (fX3_read_L35 1000 (0 : Int32) (st_si (st_si (st_si (st_si (st_si S_3 47 (0 : Int32)) 49 (0 : Int32)) 52 (0 : Int32)) 46 (0 : Int32)) 50 (1 : Int32))) fun S_14 => (if (st_i S_14 46) = 0 then (some ((1 : Int32), S_14)) else (some ((0 : Int32), S_14)))))
abbrev rmX3_read : Room := { frames := 8, cells := 0, slots := 0, locals := 168 }
theorem nf_X3_read_f12 : Cond.fieldLink RX3 12 "RepeatIndex$Tape" "told" "LRepeatIndex$Book;" ∈ wsX3_read := by decide +kernel
theorem ni_X3_read_X3 : ∀ w ∈ u_ws RX3 TX3 11, w ∈ wsX3_read := by decide +kernel
theorem nf_X3_read_f34 : Cond.fieldLink RX3 34 "RepeatIndex$Tape" "lines" "I" ∈ wsX3_read := by decide +kernel
theorem nf_X3_read_f37 : Cond.fieldLink RX3 37 "RepeatIndex$Tape" "at" "I" ∈ wsX3_read := by decide +kernel
theorem nf_X3_read_f40 : Cond.fieldLink RX3 40 "RepeatIndex$Tape" "due" "I" ∈ wsX3_read := by decide +kernel
theorem nf_X3_read_f43 : Cond.fieldLink RX3 43 "RepeatIndex$Tape" "faultKind" "I" ∈ wsX3_read := by decide +kernel
theorem nf_X3_read_f46 : Cond.fieldLink RX3 46 "RepeatIndex$Tape" "kind" "I" ∈ wsX3_read := by decide +kernel
set_option maxHeartbeats 4000000 in
set_option maxRecDepth 100000 in
theorem kX3_read_L35 {l : Launch} {D : va_G} {cy : Nat → ClassId} {ad : Nat → Nat} {kn kv : Nat → Nat} {p : Program} {e : Env} {s : State} {m : MethodId} {args : Array Value} {below : List Frame} {meth : Method} {c : Code} {A : Nat → Prop} {Q : State → Prop} (C : km_C p s m args meth c cX3_read 2 RX3 wsX3_read (some .boolean) D (rw_t cy) (ke_R kn kv) A) : ∀ (n : Nat) (x1 : Int32) (S : RSt) (S' : RSt) (h : fX3_read_L35 n x1 S = some S') {H : Heap} {locs : List Loc} {ls : Array Slot} (hP : va_P D vwCl ((rw_w cy ad) S) H) (hD : va_D A ((rw_w cy ad) S)) (hS : va_S A s.heap H locs) (hl : lv_has ls 2 [(0, .ref (ad 16)), (1, .int x1)]) (kx0 : ∀ (H : Heap) (locs : List Loc) (ls : Array Slot), va_P D vwCl ((rw_w cy ad) S') H → va_D A ((rw_w cy ad) S') → va_S A s.heap H locs → lv_has ls 2 [(0, .ref (ad 16))] → W p l e rmX3_read s m args below meth c H locs 0 0 Q (F0 m 74 ls [])), W p l e rmX3_read s m args below meth c H locs 0 0 Q (F0 m 35 ls []) := by
  obtain ⟨⟨hx, hb, hml, hown, hts⟩, hr, hlk, hK, hA, hE, hEE⟩ := id C
  intro n
  induction n with
  | zero =>
    intro x1 S S' h
    rw [fX3_read_L35] at h
    cases h
  | succ n ih =>
    intro x1 S S' h H locs ls hP hD hS hl kx0
    rw [fX3_read_L35] at h
    refine lv_iload_n hx hb dX3_read_35 rfl (lv_at hl 1 rfl) ?_
    refine lv_sipush (v := 500) hx hb dX3_read_36 (by decide) ?_
    refine lv_icmp_gt (tgt := 74) hx hb dX3_read_39 (by decide) (fun c_4 => ?_) (fun c_4 => ?_)
    · have h := ob_t c_4 h
      cases h
      exact kx0 _ _ _ hP hD hS (lv_sub hl [0] rfl)
    · have h := ob_f c_4 h
      refine lv_aload_n hx hb dX3_read_42 rfl (lv_at hl 0 rfl) ?_
      refine va_get (D := D) (ci := 3) (v := .int (st_i S 50)) (C := RX3) (T := TX3) (N := 11) hx hb hts ni_X3_read_X3 hown hK hP 16 rw_Tape rfl 7 (by decide) (hts _ nf_X3_read_f46) (fun _ h9 => h9) rfl dX3_read_43 ?_
      refine lv_if_eq (tgt := 74) hx hb dX3_read_46 (by decide) (fun c_5 => ?_) (fun c_5 => ?_)
      · have h := ob_t c_5 h
        cases h
        exact kx0 _ _ _ hP hD hS (lv_sub hl [0] rfl)
      · have h := ob_f c_5 h
        refine lv_aload_n hx hb dX3_read_49 rfl (lv_at hl 0 rfl) ?_
        refine va_get (D := D) (ci := 3) (v := .int (st_i S 46)) (C := RX3) (T := TX3) (N := 11) hx hb hts ni_X3_read_X3 hown hK hP 16 rw_Tape rfl 1 (by decide) (hts _ nf_X3_read_f43) (fun _ h9 => h9) rfl dX3_read_50 ?_
        refine lv_if_ne (tgt := 74) hx hb dX3_read_53 (by decide) (fun c_6 => ?_) (fun c_6 => ?_)
        · have h := ob_f c_6 h
          cases h
          exact kx0 _ _ _ hP hD hS (lv_sub hl [0] rfl)
        · have h := ob_t c_6 h
          refine lv_aload_n hx hb dX3_read_56 rfl (lv_at hl 0 rfl) ?_
          obtain ⟨S_9, hc_7, h⟩ := ob_1s h
          refine km_cVv (As := []) (rest := []) C (kX3_step hEE hc_7) (cwV 0 hts gX3_read_X3_step rfl rfl rfl (by decide +kernel) ⟨(Nat.le_of_ble_eq_true rfl), (Nat.le_of_ble_eq_true rfl)⟩) rw_Tape rfl rfl rfl hP hD hS hl.1 rfl (Nat.le_of_ble_eq_true rfl) dX3_read_57 (fun H locs hP hD hS => ?_)
          refine lv_aload_n hx hb dX3_read_60 rfl (lv_at hl 0 rfl) ?_
          refine lv_aload_n hx hb dX3_read_61 rfl (lv_at hl 0 rfl) ?_
          obtain ⟨r_11, S_12, hc_10, h⟩ := ob_2s h
          refine km_cVi (As := []) (rest := [.ref (ad 16)]) C (kX3_take hEE hc_10) (cwV 0 hts gX3_read_X3_take rfl rfl rfl (by decide +kernel) ⟨(Nat.le_of_ble_eq_true rfl), (Nat.le_of_ble_eq_true rfl)⟩) rw_Tape rfl rfl rfl hP hD hS hl.1 rfl (Nat.le_of_ble_eq_true rfl) dX3_read_62 (fun H locs hP hD hS => ?_)
          refine va_put (D := D) (ci := 3) (v := .int r_11) (ty := .int) (C := RX3) (T := TX3) (N := 11) hx hb hts ni_X3_read_X3 tyX3 tyX3_ok nmX3 hown hK hP hD hS 16 rw_Tape rfl 1 (by decide) (hts _ nf_X3_read_f43) (fun _ h9 => h9) rfl (by decide +kernel) rfl rfl (Nat.le_of_ble_eq_true rfl) dX3_read_65 (fun H locs hP hD hS => ?_)
          have hP := st_ps rw_s_Tape_faultKind hP
          have hD := st_ds rw_s_Tape_faultKind hD
          refine lv_iinc (v := x1 + (1 : Int32)) (lv' := [(1, .int (x1 + (1 : Int32))), (0, .ref (ad 16))]) hx hb dX3_read_68 hl (k := 1) rfl (congrArg (fun z => x1 + z) (by decide)) (by decide) rfl (fun ls hl => ?_)
          refine lv_goto (tgt := 35) hx hb dX3_read_71 (by decide) ?_
          exact ih _ _ _ h hP hD hS (lv_sub hl [1, 0] rfl) kx0
set_option maxHeartbeats 4000000 in
set_option maxRecDepth 100000 in
theorem kX3_read {l : Launch} {D : va_G} {cy : Nat → ClassId} {ad : Nat → Nat} {kn kv : Nat → Nat} (hEE : km_E (ke_R kn kv)) {S : RSt} {r : Int32} {S' : RSt} (h : fX3_read S = some (r, S')) : km_z l D (rw_t cy) (rw_w cy ad) (ke_R kn kv) yX3_read wsX3_read rmX3_read [.ref (ad 16)] S r S' := by
  refine km_z_in (cc := cX3_read) (nL := 2) hEE (by decide) rfl (Nat.le_of_ble_eq_true rfl) ?_
  intro p e s m below meth c A H ls C hP hD hS hl
  have C : km_C p s m _ meth c cX3_read 2 RX3 wsX3_read (some .boolean) D (rw_t cy) (ke_R kn kv) A := C
  obtain ⟨⟨hx, hb, hml, hown, hts⟩, hr, hlk, hK, hA, hE, hEE⟩ := id C
  have hl : lv_has ls 2 [(0, .ref (ad 16))] := hl
  unfold fX3_read at h
  refine lv_aload_n hx hb dX3_read_0 rfl (lv_at hl 0 rfl) ?_
  refine va_get (D := D) (ci := 3) (v := .ref (ad 2)) (C := RX3) (T := TX3) (N := 11) hx hb hts ni_X3_read_X3 hown hK hP 16 rw_Tape rfl 4 (by decide) (hts _ nf_X3_read_f12) (fun _ h9 => h9) rfl dX3_read_1 ?_
  refine lv_iconst (v := 2) hx hb dX3_read_4 (by decide) ?_
  obtain ⟨S_3, hc_1, h⟩ := ob_1s h
  refine km_cVv (As := [.int (2 : Int32)]) (rest := []) C (kX0_reset hEE (by decide : 2 < 13) hc_1) (cwV 1 hts gX3_read_X0_reset rfl rfl rfl (by decide +kernel) ⟨(Nat.le_of_ble_eq_true rfl), (Nat.le_of_ble_eq_true rfl)⟩) (rw_Book (by decide : 2 < 13)) rfl rfl rfl hP hD hS hl.1 rfl (Nat.le_of_ble_eq_true rfl) dX3_read_5 (fun H locs hP hD hS => ?_)
  refine lv_aload_n hx hb dX3_read_8 rfl (lv_at hl 0 rfl) ?_
  refine lv_iconst (v := 0) hx hb dX3_read_9 (by decide) ?_
  refine va_put (D := D) (ci := 3) (v := .int (0 : Int32)) (ty := .int) (C := RX3) (T := TX3) (N := 11) hx hb hts ni_X3_read_X3 tyX3 tyX3_ok nmX3 hown hK hP hD hS 16 rw_Tape rfl 2 (by decide) (hts _ nf_X3_read_f34) (fun _ h9 => h9) rfl (by decide +kernel) rfl rfl (Nat.le_of_ble_eq_true rfl) dX3_read_10 (fun H locs hP hD hS => ?_)
  have hP := st_ps rw_s_Tape_lines hP
  have hD := st_ds rw_s_Tape_lines hD
  refine lv_aload_n hx hb dX3_read_13 rfl (lv_at hl 0 rfl) ?_
  refine lv_iconst (v := 0) hx hb dX3_read_14 (by decide) ?_
  refine va_put (D := D) (ci := 3) (v := .int (0 : Int32)) (ty := .int) (C := RX3) (T := TX3) (N := 11) hx hb hts ni_X3_read_X3 tyX3 tyX3_ok nmX3 hown hK hP hD hS 16 rw_Tape rfl 6 (by decide) (hts _ nf_X3_read_f37) (fun _ h9 => h9) rfl (by decide +kernel) rfl rfl (Nat.le_of_ble_eq_true rfl) dX3_read_15 (fun H locs hP hD hS => ?_)
  have hP := st_ps rw_s_Tape_at hP
  have hD := st_ds rw_s_Tape_at hD
  refine lv_aload_n hx hb dX3_read_18 rfl (lv_at hl 0 rfl) ?_
  refine lv_iconst (v := 0) hx hb dX3_read_19 (by decide) ?_
  refine va_put (D := D) (ci := 3) (v := .int (0 : Int32)) (ty := .int) (C := RX3) (T := TX3) (N := 11) hx hb hts ni_X3_read_X3 tyX3 tyX3_ok nmX3 hown hK hP hD hS 16 rw_Tape rfl 9 (by decide) (hts _ nf_X3_read_f40) (fun _ h9 => h9) rfl (by decide +kernel) rfl rfl (Nat.le_of_ble_eq_true rfl) dX3_read_20 (fun H locs hP hD hS => ?_)
  have hP := st_ps rw_s_Tape_due hP
  have hD := st_ds rw_s_Tape_due hD
  refine lv_aload_n hx hb dX3_read_23 rfl (lv_at hl 0 rfl) ?_
  refine lv_iconst (v := 0) hx hb dX3_read_24 (by decide) ?_
  refine va_put (D := D) (ci := 3) (v := .int (0 : Int32)) (ty := .int) (C := RX3) (T := TX3) (N := 11) hx hb hts ni_X3_read_X3 tyX3 tyX3_ok nmX3 hown hK hP hD hS 16 rw_Tape rfl 1 (by decide) (hts _ nf_X3_read_f43) (fun _ h9 => h9) rfl (by decide +kernel) rfl rfl (Nat.le_of_ble_eq_true rfl) dX3_read_25 (fun H locs hP hD hS => ?_)
  have hP := st_ps rw_s_Tape_faultKind hP
  have hD := st_ds rw_s_Tape_faultKind hD
  refine lv_aload_n hx hb dX3_read_28 rfl (lv_at hl 0 rfl) ?_
  refine lv_iconst (v := 1) hx hb dX3_read_29 (by decide) ?_
  refine va_put (D := D) (ci := 3) (v := .int (1 : Int32)) (ty := .int) (C := RX3) (T := TX3) (N := 11) hx hb hts ni_X3_read_X3 tyX3 tyX3_ok nmX3 hown hK hP hD hS 16 rw_Tape rfl 7 (by decide) (hts _ nf_X3_read_f46) (fun _ h9 => h9) rfl (by decide +kernel) rfl rfl (Nat.le_of_ble_eq_true rfl) dX3_read_30 (fun H locs hP hD hS => ?_)
  have hP := st_ps rw_s_Tape_kind hP
  have hD := st_ds rw_s_Tape_kind hD
  refine lv_iconst (v := 0) hx hb dX3_read_33 (by decide) ?_
  refine lv_istore_n (lv' := [(1, .int (0 : Int32)), (0, .ref (ad 16))]) hx hb dX3_read_34 rfl hl (by decide) rfl (fun ls hl => ?_)
  obtain ⟨S_14, hq_13, h⟩ := ob_1s h
  refine kX3_read_L35  C _ _ _ _ hq_13 hP hD hS (lv_sub hl [1, 0] rfl) (fun H locs ls hP hD hS hl => ?_)
  refine lv_aload_n hx hb dX3_read_74 rfl (lv_at hl 0 rfl) ?_
  refine va_get (D := D) (ci := 3) (v := .int (st_i S_14 46)) (C := RX3) (T := TX3) (N := 11) hx hb hts ni_X3_read_X3 hown hK hP 16 rw_Tape rfl 1 (by decide) (hts _ nf_X3_read_f43) (fun _ h9 => h9) rfl dX3_read_75 ?_
  refine lv_if_ne (tgt := 85) hx hb dX3_read_78 (by decide) (fun c_15 => ?_) (fun c_15 => ?_)
  · have h := ob_f c_15 h
    refine lv_iconst (v := 0) hx hb dX3_read_85 (by decide) ?_
    obtain ⟨rfl, rfl⟩ := ob_w h
    exact km_zret C (by decide) hP hD hS dX3_read_86
  · have h := ob_t c_15 h
    refine lv_iconst (v := 1) hx hb dX3_read_81 (by decide) ?_
    refine lv_goto (tgt := 86) hx hb dX3_read_82 (by decide) ?_
    obtain ⟨rfl, rfl⟩ := ob_w h
    exact km_zret C (by decide) hP hD hS dX3_read_86
def fX4_text (S : RSt) : Option (Int32 × RSt) := (ob_2 (fX3_read S) fun r_2 S_3 => (if r_2 = 0 then (some ((-1 : Int32) - (st_i (st_si S_3 45 (0 : Int32)) 48), (st_si S_3 45 (0 : Int32)))) else (ob_1 (fX0_copyFrom 0 2 (st_si S_3 45 (0 : Int32))) fun S_8 => (ob_1 (fX2_forget S_8) fun S_11 => (some (st_i (st_si S_11 54 (0 : Int32)) 47, (st_si S_11 54 (0 : Int32))))))))
abbrev rmX4_text : Room := { frames := 9, cells := 0, slots := 0, locals := 189 }
theorem nf_X4_text_f12 : Cond.fieldLink RX4 12 "RepeatIndex" "tape" "LRepeatIndex$Tape;" ∈ wsX4_text := by decide +kernel
theorem ni_X4_text_X4 : ∀ w ∈ u_ws RX4 TX4 7, w ∈ wsX4_text := by decide +kernel
theorem nf_X4_text_f55 : Cond.fieldLink RX4 55 "RepeatIndex$Tape" "length" "I" ∈ wsX4_text := by decide +kernel
theorem ni_X4_text_X3 : ∀ w ∈ u_ws RX3 TX3 11, w ∈ wsX4_text := by decide +kernel
theorem nf_X4_text_f19 : Cond.fieldLink RX4 19 "RepeatIndex" "book" "LRepeatIndex$Book;" ∈ wsX4_text := by decide +kernel
theorem nf_X4_text_f66 : Cond.fieldLink RX4 66 "RepeatIndex$Tape" "told" "LRepeatIndex$Book;" ∈ wsX4_text := by decide +kernel
theorem nf_X4_text_f43 : Cond.fieldLink RX4 43 "RepeatIndex" "history" "LRepeatIndex$History;" ∈ wsX4_text := by decide +kernel
theorem nf_X4_text_f36 : Cond.fieldLink RX4 36 "RepeatIndex" "fitStands" "Z" ∈ wsX4_text := by decide +kernel
theorem nf_X4_text_f76 : Cond.fieldLink RX4 76 "RepeatIndex$Tape" "lines" "I" ∈ wsX4_text := by decide +kernel
theorem nf_X4_text_f63 : Cond.fieldLink RX4 63 "RepeatIndex$Tape" "begin" "I" ∈ wsX4_text := by decide +kernel
set_option maxHeartbeats 4000000 in
set_option maxRecDepth 100000 in
theorem kX4_text {l : Launch} {D : va_G} {cy : Nat → ClassId} {ad : Nat → Nat} {kn kv : Nat → Nat} (hEE : km_E (ke_R kn kv)) {S : RSt} {r : Int32} {S' : RSt} (h : fX4_text S = some (r, S')) : km_i l D (rw_t cy) (rw_w cy ad) (ke_R kn kv) yX4_text wsX4_text rmX4_text [.ref (ad 17)] S r S' := by
  refine km_i_in (cc := cX4_text) (nL := 2) hEE (by decide) rfl (Nat.le_of_ble_eq_true rfl) ?_
  intro p e s m below meth c A H ls C hP hD hS hl
  have C : km_C p s m _ meth c cX4_text 2 RX4 wsX4_text (some .int) D (rw_t cy) (ke_R kn kv) A := C
  obtain ⟨⟨hx, hb, hml, hown, hts⟩, hr, hlk, hK, hA, hE, hEE⟩ := id C
  have hl : lv_has ls 2 [(0, .ref (ad 17))] := hl
  unfold fX4_text at h
  refine lv_aload_n hx hb dX4_text_0 rfl (lv_at hl 0 rfl) ?_
  refine va_get (D := D) (ci := 4) (v := .ref (ad 16)) (C := RX4) (T := TX4) (N := 7) hx hb hts ni_X4_text_X4 hown hK hP 17 rw_Main rfl 0 (by decide) (hts _ nf_X4_text_f12) (fun _ h9 => h9) rfl dX4_text_1 ?_
  obtain ⟨r_2, S_3, hc_1, h⟩ := ob_2s h
  refine km_cVz (As := []) (rest := []) C (kX3_read hEE hc_1) (cwV 0 hts gX4_text_X3_read rfl rfl rfl (by decide +kernel) ⟨(Nat.le_of_ble_eq_true rfl), (Nat.le_of_ble_eq_true rfl)⟩) rw_Tape rfl rfl rfl hP hD hS hl.1 rfl (Nat.le_of_ble_eq_true rfl) dX4_text_4 (fun H locs hP hD hS hz_4 => ?_)
  refine lv_istore_n (lv' := [(1, .int r_2), (0, .ref (ad 17))]) hx hb dX4_text_7 rfl hl (by decide) rfl (fun ls hl => ?_)
  refine lv_aload_n hx hb dX4_text_8 rfl (lv_at hl 1 rfl) ?_
  refine va_get (D := D) (ci := 4) (v := .ref (ad 16)) (C := RX4) (T := TX4) (N := 7) hx hb hts ni_X4_text_X4 hown hK hP 17 rw_Main rfl 0 (by decide) (hts _ nf_X4_text_f12) (fun _ h9 => h9) rfl dX4_text_9 ?_
  refine lv_iconst (v := 0) hx hb dX4_text_12 (by decide) ?_
  refine va_put (D := D) (ci := 3) (v := .int (0 : Int32)) (ty := .int) (C := RX3) (T := TX3) (N := 11) hx hb hts ni_X4_text_X3 tyX3 tyX3_ok nmX3 hown hK hP hD hS 16 rw_Tape rfl 0 (by decide) (hts _ nf_X4_text_f55) (fun _ h9 => h9) rfl (by decide +kernel) rfl rfl (Nat.le_of_ble_eq_true rfl) dX4_text_13 (fun H locs hP hD hS => ?_)
  have hP := st_ps rw_s_Tape_length hP
  have hD := st_ds rw_s_Tape_length hD
  refine lv_iload_n hx hb dX4_text_16 rfl (lv_at hl 0 rfl) ?_
  refine lv_if_ne (tgt := 30) hx hb dX4_text_17 (by decide) (fun c_5 => ?_) (fun c_5 => ?_)
  · have h := ob_f c_5 h
    refine lv_aload_n hx hb dX4_text_30 rfl (lv_at hl 1 rfl) ?_
    refine va_get (D := D) (ci := 4) (v := .ref (ad 0)) (C := RX4) (T := TX4) (N := 7) hx hb hts ni_X4_text_X4 hown hK hP 17 rw_Main rfl 1 (by decide) (hts _ nf_X4_text_f19) (fun _ h9 => h9) rfl dX4_text_31 ?_
    refine lv_aload_n hx hb dX4_text_34 rfl (lv_at hl 1 rfl) ?_
    refine va_get (D := D) (ci := 4) (v := .ref (ad 16)) (C := RX4) (T := TX4) (N := 7) hx hb hts ni_X4_text_X4 hown hK hP 17 rw_Main rfl 0 (by decide) (hts _ nf_X4_text_f12) (fun _ h9 => h9) rfl dX4_text_35 ?_
    refine va_get (D := D) (ci := 3) (v := .ref (ad 2)) (C := RX3) (T := TX3) (N := 11) hx hb hts ni_X4_text_X3 hown hK hP 16 rw_Tape rfl 4 (by decide) (hts _ nf_X4_text_f66) (fun _ h9 => h9) rfl dX4_text_38 ?_
    obtain ⟨S_8, hc_6, h⟩ := ob_1s h
    refine km_cVv (As := [.ref (ad 2)]) (rest := []) C (kX0_copyFrom hEE (by decide : 0 < 13) (by decide : 2 < 13) hc_6) (cwV 1 hts gX4_text_X0_copyFrom rfl rfl rfl (by decide +kernel) ⟨(Nat.le_of_ble_eq_true rfl), (Nat.le_of_ble_eq_true rfl)⟩) (rw_Book (by decide : 0 < 13)) rfl rfl rfl hP hD hS hl.1 rfl (Nat.le_of_ble_eq_true rfl) dX4_text_41 (fun H locs hP hD hS => ?_)
    refine lv_aload_n hx hb dX4_text_44 rfl (lv_at hl 1 rfl) ?_
    refine va_get (D := D) (ci := 4) (v := .ref (ad 15)) (C := RX4) (T := TX4) (N := 7) hx hb hts ni_X4_text_X4 hown hK hP 17 rw_Main rfl 6 (by decide) (hts _ nf_X4_text_f43) (fun _ h9 => h9) rfl dX4_text_45 ?_
    obtain ⟨S_11, hc_9, h⟩ := ob_1s h
    refine km_cVv (As := []) (rest := []) C (kX2_forget hEE hc_9) (cwV 0 hts gX4_text_X2_forget rfl rfl rfl (by decide +kernel) ⟨(Nat.le_of_ble_eq_true rfl), (Nat.le_of_ble_eq_true rfl)⟩) rw_Hist rfl rfl rfl hP hD hS hl.1 rfl (Nat.le_of_ble_eq_true rfl) dX4_text_48 (fun H locs hP hD hS => ?_)
    refine lv_aload_n hx hb dX4_text_51 rfl (lv_at hl 1 rfl) ?_
    refine lv_iconst (v := 0) hx hb dX4_text_52 (by decide) ?_
    refine va_put (D := D) (ci := 4) (v := .int (0 : Int32)) (ty := .boolean) (C := RX4) (T := TX4) (N := 7) hx hb hts ni_X4_text_X4 tyX4 tyX4_ok nmX4 hown hK hP hD hS 17 rw_Main rfl 5 (by decide) (hts _ nf_X4_text_f36) (fun _ h9 => h9) rfl (by decide +kernel) rfl rfl (Nat.le_of_ble_eq_true rfl) dX4_text_53 (fun H locs hP hD hS => ?_)
    have hP := st_ps rw_s_Main_fitStands hP
    have hD := st_ds rw_s_Main_fitStands hD
    refine lv_aload_n hx hb dX4_text_56 rfl (lv_at hl 1 rfl) ?_
    refine va_get (D := D) (ci := 4) (v := .ref (ad 16)) (C := RX4) (T := TX4) (N := 7) hx hb hts ni_X4_text_X4 hown hK hP 17 rw_Main rfl 0 (by decide) (hts _ nf_X4_text_f12) (fun _ h9 => h9) rfl dX4_text_57 ?_
    refine va_get (D := D) (ci := 3) (v := .int (st_i (st_si S_11 54 (0 : Int32)) 47)) (C := RX3) (T := TX3) (N := 11) hx hb hts ni_X4_text_X3 hown hK hP 16 rw_Tape rfl 2 (by decide) (hts _ nf_X4_text_f76) (fun _ h9 => h9) rfl dX4_text_60 ?_
    obtain ⟨rfl, rfl⟩ := ob_w h
    exact km_iret C hP hD hS dX4_text_63
  · have h := ob_t c_5 h
    refine lv_iconst (v := -1) hx hb dX4_text_20 (by decide) ?_
    refine lv_aload_n hx hb dX4_text_21 rfl (lv_at hl 1 rfl) ?_
    refine va_get (D := D) (ci := 4) (v := .ref (ad 16)) (C := RX4) (T := TX4) (N := 7) hx hb hts ni_X4_text_X4 hown hK hP 17 rw_Main rfl 0 (by decide) (hts _ nf_X4_text_f12) (fun _ h9 => h9) rfl dX4_text_22 ?_
    refine va_get (D := D) (ci := 3) (v := .int (st_i (st_si S_3 45 (0 : Int32)) 48)) (C := RX3) (T := TX3) (N := 11) hx hb hts ni_X4_text_X3 hown hK hP 16 rw_Tape rfl 3 (by decide) (hts _ nf_X4_text_f63) (fun _ h9 => h9) rfl dX4_text_25 ?_
    refine lv_isub hx hb dX4_text_28 ?_
    obtain ⟨rfl, rfl⟩ := ob_w h
    exact km_iret C hP hD hS dX4_text_29
