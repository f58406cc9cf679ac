/-! What stands beside the landed world: string constants, statics, a nest mate's link; entries and calls that need it. -/
def js_tx (i : Nat) : String := match i with
  | 0 => "months"
  | 1 => "weigh"
  | 2 => "home"
  | _ => "sale"
def js_ix (i : Nat) : Nat := match i with
  | 0 => 147
  | 1 => 152
  | 2 => 154
  | _ => 156
def js_len : List Nat := [6, 5, 4, 4]
def js_byt : List (List Int32) := [[109, 111, 110, 116, 104, 115], [119, 101, 105, 103, 104], [104, 111, 109, 101], [115, 97, 108, 101]]
def js_n (i : Nat) : Int32 := Int32.ofNat (js_len.getD i 0) >>> ((0 : Int32) &&& 31)
def js_c (i k : Nat) : Int32 := (((js_byt.getD i []).getD k 0 &&& 255).toUInt32 % 65536).toInt32
def nse_n : String := "java/util/NoSuchElementException"
def ke_R (kn kv : Nat → Nat) : ke_T := fun A U H => va_Nw (.methodLinkNest RX1 62 yX4_lowestTerms "RepeatIndex") U ∧ va_Z "java/lang/String" "COMPACT_STRINGS" "Z" (.int 1) A U H ∧ va_Zq "jdk/internal/util/Preconditions" "SIOOBE_FORMATTER" "Ljava/util/function/BiFunction;" A U H ∧ vk_S 4 js_len js_byt kn kv A U H ∧ (∀ i, i < 4 → vk_R RX3 (js_ix i) (js_tx i) (kn i) U) ∧ vx_Zq Bundle.tN "UNASSIGNED_STACK" Bundle.steD A U H ∧ vx_Zq Bundle.tN "SUPPRESSED_SENTINEL" Bundle.listD A U H ∧ va_Nw (.castable nse_n nse_n) U ∧ va_Nw (.declares ⟨"java/lang/RuntimeException", "<init>", "()V"⟩) U ∧ va_Nw (.declares ⟨"java/lang/Exception", "<init>", "()V"⟩) U ∧ va_Nw (.declares ⟨"java/lang/Throwable", "<init>", "()V"⟩) U
theorem ke_Rok (kn kv : Nat → Nat) : km_E (ke_R kn kv) := by
  refine ⟨?_, ?_, ?_, ?_⟩
  · intro A u U H hv h
    have hq : u.vm.Alike U.vm := by rw [hv]; exact Vm.Alike.refl _
    obtain ⟨h1, h2, h3, h4, h5, h6, h7, h8, h9, ha, hb⟩ := h
    exact ⟨va_Nw.same rfl hv h1, va_Z.moved hq h2, va_Zq.moved hq h3, vk_S.moved hq h4, fun i hi => vk_R.same hv.symm (h5 i hi), vx_Zq.moved hq h6, vx_Zq.moved hq h7, va_Nw.same rfl hv h8, va_Nw.same rfl hv h9, va_Nw.same rfl hv ha, va_Nw.same rfl hv hb⟩
  · intro A s U H hW h
    obtain ⟨h1, h2, h3, h4, h5, h6, h7, h8, h9, ha, hb⟩ := h
    exact ⟨va_Nw.warmM hW h1, va_Z.moved hW.alike h2, va_Zq.moved hW.alike h3, vk_S.moved hW.alike h4, fun i hi => vk_R.warm hW (h5 i hi), vx_Zq.moved hW.alike h6, vx_Zq.moved hW.alike h7, va_Nw.warmC hW h8, va_Nw.warmD hW h9, va_Nw.warmD hW ha, va_Nw.warmD hW hb⟩
  · intro A U H H1 hq h
    obtain ⟨h1, h2, h3, h4, h5, h6, h7, h8, h9, ha, hb⟩ := h
    exact ⟨h1, h2.kept hq, h3.kept hq, h4.kept hq, h5, h6.kept hq, h7.kept hq, h8, h9, ha, hb⟩
  · intro A B U H hAB h
    obtain ⟨h1, h2, h3, h4, h5, h6, h7, h8, h9, ha, hb⟩ := h
    exact ⟨h1, h2.narrow hAB, h3.narrow hAB, h4.narrow hAB, h5, h6.narrow hAB, h7.narrow hAB, h8, h9, ha, hb⟩
section KE
variable {p : Program} {l : Launch} {e : Env} {R : Room} {s : State} {m : MethodId} {args : Array Value} {below : List Frame} {meth : Method} {c : Code} {H : Heap} {locs : List Loc} {Q : State → Prop} {cc : ByteArray} {pc nL : Nat} {ls : Array Slot} {own : String} {Ts : List Cond} {ret : Option FieldType} {D : va_G} {tys : List (ClassId × FieldType)} {wd : RSt → va_W} {E : ke_T} {A : Nat → Prop} {av : List Value}
/-- an answer of another small type -/
theorem km_y_in {ty : FieldType} {y : MethodName} {ws ws' : List Cond} {rm : Room} {S : RSt} {r : Int32} {S' : RSt} (hEE : km_E E) (hy : plainName y.cls = true) (hw : ws = Cond.code y cc nL (some ty) :: ws') (hav : (lg_sl av).length ≤ nL)
    (body : ∀ (p : Program) (e : Env) (s : State) (m : MethodId) (below : List Frame) (meth : Method) (c : Code) (A : Nat → Prop) (H : Heap) (ls : Array Slot), km_C p s m av.toArray meth c cc nL y.cls ws (some ty) D tys E A → va_P D vwCl (wd S) H → va_D A (wd S) → va_S A s.heap H [] → lv_has ls nL (lv_args 0 av) →
      W p l e rm s m av.toArray below meth c H [] 0 0 (km_Qi below D tys wd A av.toArray s r S') (F0 m 0 ls [])) : km_i l D tys wd E y ws rm av S r S' := by
  intro sz
  refine Met.ofW (cc := cc) (maxL := nL) (ret := some ty) hy hw ?_
  intro p e s m args below meth c s₁ B hml hv
  obtain ⟨rfl, hsz, hP, hK, hD0, hE⟩ := hv
  have hts := atoms_spec (ws := ws) B.pre
  have hown : s.vm.findClass y.cls = some m.cls := findClass_of_methodNamed B.named
  subst hsz
  have hD := hD0.self (sz := s.heap.size)
  have hA : ∀ q : Nat, s.heap.size ≤ q → va_A (wd S) s.heap.size q := fun q h => Or.inr h
  have hl := lv_entry av (n := nL) hav
  rw [lg_entry_eq]
  generalize (lg_sl av ++ List.replicate (nL - (lg_sl av).length) Slot.unset).toArray = ls at hl ⊢
  exact body p e s m below meth c _ s.heap ls ⟨⟨B.exec, B.bytes, hml, hown, hts⟩, B.returns, B.notSynchronized, hK, hA, hE, hEE⟩ hP hD va_S.rf hl
theorem km_yret {ty : FieldType} {r : Int32} {S' : RSt} (C : km_C p s m args meth c cc nL own Ts (some ty) D tys E A) (hn : narrow ty (.int r) = .int r) (hP : va_P D vwCl (wd S') H) (hD : va_D A (wd S')) (hS : va_S A s.heap H locs) (hdg : decode cc pc = .ok (.ireturn, 1)) : W p l e R s m args below meth c H locs 0 0 (km_Qi below D tys wd A args s r S') (F0 m pc ls [.int r]) := by
  obtain ⟨⟨hx, hb, hml, hown, hts⟩, hr, hlk, hK, hA, hE, hEE⟩ := C
  exact W.zret (v := r) hx hb hr hn (fun t ht hW => ⟨⟨r, S', rfl, ⟨rfl, rfl⟩, by rw [ht]; exact hP, va_K.moved hW.alike hK, hD⟩, hS.F ht⟩) hS.2.2 hdg hlk
/-- a call on an object that isn't of the world -/
theorem km_cRi {S : RSt} {r : Int32} {S' : RSt} {y : MethodName} {ws : List Cond} {rm : Room} {As rest st : List Value} {b : Nat} {CC : String} {index maxL n : Nat} {bytes : ByteArray} {rt : Option FieldType} (C : km_C p s m args meth c cc nL own Ts ret D tys E A) (hM : km_i l D tys wd E y ws rm (.ref b :: As) S r S') (cw : CallW R s args own CC index y bytes maxL rt ws rm 0 0 n) (hrv : ∃ cellB : Cell, H[b]? = some cellB ∧ cellB.vm.isStatics = false ∧ s.vm.findClass CC = some cellB.cls) (hn : As.length = n) (hP : va_P D vwCl (wd S) H) (hD : va_D A (wd S)) (hS : va_S A s.heap H locs) (hls : ls.size = nL) (hst : st = As.reverse ++ .ref b :: rest) (hroom : (rest.map fun v => v.category).sum ≤ 8) (hdg : decode cc pc = .ok (.invokevirtual index, 3))
    (kk : ∀ (H1 : Heap) (locs1 : List Loc), va_P D vwCl (wd S') H1 → va_D A (wd S') → va_S A s.heap H1 locs1 → W p l e R s m args below meth c H1 locs1 0 0 Q (F0 m (pc + 3) ls (.int r :: rest))) : W p l e R s m args below meth c H locs 0 0 Q (F0 m pc ls st) := by
  have hfree := km_free C hD hS
  refine va_calli (va_runV (As := As) (rest := rest) C.1 (hM H.size) cw ⟨km_blind C.2.2.2.2.2.2, hrv, km_pre C hP hD hS⟩ rfl hn hls hst (lv_room hroom) hdg ⟨Nat.zero_le _, Nat.zero_le _⟩) hS (fun q _ h => hfree q h) hfree (fun r' u t H1 locs1 ht hvm hw hB hz1 hk1 hS1 => ?_)
  obtain ⟨rfl, rfl⟩ := hw
  obtain ⟨hP1, hK1, hD1⟩ := hB
  rw [ht] at hP1
  exact kk H1 locs1 hP1 (hD1.weaken (fun _ _ _ h => hfree _ h)) hS1
/-- a static call of a nest mate's private method -/
theorem km_cNl {S : RSt} {r : Int64} {S' : RSt} {y : MethodName} {ws : List Cond} {rm : Room} {As rest st : List Value} {host : String} {index maxL n : Nat} {bytes : ByteArray} {rt : Option FieldType} (C : km_C p s m args meth c cc nL own Ts ret D tys E A) (hM : km_l l D tys wd E y ws rm As S r S') (cw : va_CN R s args own index y host bytes maxL rt ws rm 0 0 n ∧ (Cond.static y).before args s = true ∧ True) (hn : As.length = n) (hP : va_P D vwCl (wd S) H) (hD : va_D A (wd S)) (hS : va_S A s.heap H locs) (hls : ls.size = nL) (hst : st = As.reverse ++ rest) (hroom : (rest.map fun v => v.category).sum ≤ 8) (hdg : decode cc pc = .ok (.invokestatic index, 3))
    (kk : ∀ (H1 : Heap) (locs1 : List Loc), va_P D vwCl (wd S') H1 → va_D A (wd S') → va_S A s.heap H1 locs1 → W p l e R s m args below meth c H1 locs1 0 0 Q (F0 m (pc + 3) ls (.long r :: rest))) : W p l e R s m args below meth c H locs 0 0 Q (F0 m pc ls st) := by
  have hfree := km_free C hD hS
  refine va_calll (va_runSN (As := As) (rest := rest) C.1 (hM H.size) cw ⟨km_blind C.2.2.2.2.2.2, km_pre C hP hD hS⟩ rfl hn hls hst (lv_room hroom) hdg ⟨Nat.zero_le _, Nat.zero_le _⟩) hS (fun q _ h => hfree q h) hfree (fun r' u t H1 locs1 ht hvm hw hB hz1 hk1 hS1 => ?_)
  obtain ⟨rfl, rfl⟩ := hw
  obtain ⟨hP1, hK1, hD1⟩ := hB
  rw [ht] at hP1
  exact kk H1 locs1 hP1 (hD1.weaken (fun _ _ _ h => hfree _ h)) hS1
end KE
theorem js_at {kn kv : Nat → Nat} {A : Nat → Prop} {s : State} {H : Heap} (hE : ke_R kn kv A s H) {w : Nat} (hw : w < 4) : va_OF "java/lang/String" "coder" "B" (.int 0) (kn w) A s H ∧ va_OF "java/lang/String" "value" "[B" (.ref (kv w)) (kn w) A s H ∧ va_T .byte (kv w) (js_len.getD w 0) (fun j => .int ((js_byt.getD w []).getD j 0)) A s H := ⟨(hE.2.2.2.1.1 w hw).2.1, (hE.2.2.2.1.1 w hw).2.2.1, (hE.2.2.2.1.1 w hw).2.2.2⟩
theorem js_rv {kn kv : Nat → Nat} {A : Nat → Prop} {s : State} {H : Heap} {locs : List Loc} (hE : ke_R kn kv A s s.heap) {w : Nat} (hw : w < 4) (hS : va_S A s.heap H locs) : ∃ cell : Cell, H[kn w]? = some cell ∧ cell.vm.isStatics = false ∧ s.vm.findClass "java/lang/String" = some cell.cls := vk_recv hE.2.2.2.1 hw hS
set_option maxHeartbeats 4000000 in
set_option maxRecDepth 100000 in
theorem kJ0_coder {l : Launch} {D : va_G} {cy : Nat → ClassId} {ad kn kv : Nat → Nat} {w : Nat} (hw : w < 4) {S : RSt} : km_i l D (rw_t cy) (rw_w cy ad) (ke_R kn kv) yJ0_coder_7d493 wsJ0_coder_7d493 { frames := 0, cells := 0, slots := 0, locals := 0 } [.ref (kn w)] S 0 S := by
  refine km_y_in (ty := .byte) (cc := cJ0_coder_7d493) (nL := 1) (ke_Rok kn kv) (by decide) rfl (Nat.le_of_ble_eq_true rfl) ?_
  intro p e s m below meth c A H ls C hP hD hS hl
  have C : km_C p s m _ meth c cJ0_coder_7d493 1 RJ0 wsJ0_coder_7d493 (some .byte) D (rw_t cy) (ke_R kn kv) A := C
  obtain ⟨⟨hx, hb, hml, hown, hts⟩, hr, hlk, hK, hA, hE, hEE⟩ := id C
  have hl : lv_has ls 1 [(0, .ref (kn w))] := hl
  refine va_gets hx hb hE.2.1 hS hown (hts (.fieldLink RJ0 38 "java/lang/String" "COMPACT_STRINGS" "Z") (by decide +kernel)) (fun _ h9 => h9) dJ0_coder_7d493_0 ?_
  refine lv_if_eq (tgt := 13) hx hb dJ0_coder_7d493_3 (by decide) (fun c_1 => absurd c_1 (by decide)) (fun c_1 => ?_)
  refine lv_aload_n hx hb dJ0_coder_7d493_6 rfl (lv_at hl 0 rfl) ?_
  refine vk_getf hx hb (js_at hE hw).1 hS hown (hts (.fieldLink RJ0 15 "java/lang/String" "coder" "B") (by decide +kernel)) (fun _ h9 => h9) dJ0_coder_7d493_7 ?_
  refine lv_goto (tgt := 14) hx hb dJ0_coder_7d493_10 (by decide) ?_
  exact km_yret C (by decide) hP hD hS dJ0_coder_7d493_14
set_option maxHeartbeats 4000000 in
set_option maxRecDepth 100000 in
theorem kJ0_isLatin1 {l : Launch} {D : va_G} {cy : Nat → ClassId} {ad kn kv : Nat → Nat} {w : Nat} (hw : w < 4) {S : RSt} : km_i l D (rw_t cy) (rw_w cy ad) (ke_R kn kv) yJ0_isLatin1_aae02 wsJ0_isLatin1_aae02 { frames := 0, cells := 0, slots := 0, locals := 0 } [.ref (kn w)] S 1 S := by
  refine km_y_in (ty := .boolean) (cc := cJ0_isLatin1_aae02) (nL := 1) (ke_Rok kn kv) (by decide) rfl (Nat.le_of_ble_eq_true rfl) ?_
  intro p e s m below meth c A H ls C hP hD hS hl
  have C : km_C p s m _ meth c cJ0_isLatin1_aae02 1 RJ0 wsJ0_isLatin1_aae02 (some .boolean) D (rw_t cy) (ke_R kn kv) A := C
  obtain ⟨⟨hx, hb, hml, hown, hts⟩, hr, hlk, hK, hA, hE, hEE⟩ := id C
  have hl : lv_has ls 1 [(0, .ref (kn w))] := hl
  refine va_gets hx hb hE.2.1 hS hown (hts (.fieldLink RJ0 38 "java/lang/String" "COMPACT_STRINGS" "Z") (by decide +kernel)) (fun _ h9 => h9) dJ0_isLatin1_aae02_0 ?_
  refine lv_if_eq (tgt := 17) hx hb dJ0_isLatin1_aae02_3 (by decide) (fun c_1 => absurd c_1 (by decide)) (fun c_1 => ?_)
  refine lv_aload_n hx hb dJ0_isLatin1_aae02_6 rfl (lv_at hl 0 rfl) ?_
  refine vk_getf hx hb (js_at hE hw).1 hS hown (hts (.fieldLink RJ0 15 "java/lang/String" "coder" "B") (by decide +kernel)) (fun _ h9 => h9) dJ0_isLatin1_aae02_7 ?_
  refine lv_if_ne (tgt := 17) hx hb dJ0_isLatin1_aae02_10 (by decide) (fun c_2 => absurd rfl c_2) (fun c_2 => ?_)
  refine lv_iconst (v := 1) hx hb dJ0_isLatin1_aae02_13 (by decide) ?_
  refine lv_goto (tgt := 18) hx hb dJ0_isLatin1_aae02_14 (by decide) ?_
  exact km_yret C (by decide) hP hD hS dJ0_isLatin1_aae02_18
set_option maxHeartbeats 4000000 in
set_option maxRecDepth 100000 in
theorem kJ0_length {l : Launch} {D : va_G} {cy : Nat → ClassId} {ad kn kv : Nat → Nat} {w : Nat} (hw : w < 4) {S : RSt} : km_i l D (rw_t cy) (rw_w cy ad) (ke_R kn kv) yJ0_length_8abf5 wsJ0_length_8abf5 { frames := 1, cells := 0, slots := 0, locals := 20 } [.ref (kn w)] S (js_n w) S := by
  refine km_i_in (cc := cJ0_length_8abf5) (nL := 1) (ke_Rok kn kv) (by decide) rfl (Nat.le_of_ble_eq_true rfl) ?_
  intro p e s m below meth c A H ls C hP hD hS hl
  have C : km_C p s m _ meth c cJ0_length_8abf5 1 RJ0 wsJ0_length_8abf5 (some .int) D (rw_t cy) (ke_R kn kv) A := C
  obtain ⟨⟨hx, hb, hml, hown, hts⟩, hr, hlk, hK, hA, hE, hEE⟩ := id C
  have hl : lv_has ls 1 [(0, .ref (kn w))] := hl
  refine lv_aload_n hx hb dJ0_length_8abf5_0 rfl (lv_at hl 0 rfl) ?_
  refine vk_getf hx hb (js_at hE hw).2.1 hS hown (hts (.fieldLink RJ0 9 "java/lang/String" "value" "[B") (by decide +kernel)) (fun _ h9 => h9) dJ0_length_8abf5_1 ?_
  refine va_tlen hx hb (js_at hE hw).2.2 hS rfl dJ0_length_8abf5_4 ?_
  refine lv_aload_n hx hb dJ0_length_8abf5_5 rfl (lv_at hl 0 rfl) ?_
  refine km_cRi (As := []) (rest := [.int (Int32.ofNat (js_len.getD w 0))]) C (kJ0_coder hw) (cwV 0 hts gJ0_length_8abf5_J0_coder_7d493 rfl rfl rfl (by decide +kernel) ⟨(Nat.le_of_ble_eq_true rfl), (Nat.le_of_ble_eq_true rfl)⟩) (js_rv hE hw hS) rfl hP hD hS hl.1 rfl (Nat.le_of_ble_eq_true rfl) dJ0_length_8abf5_6 (fun H locs hP hD hS => ?_)
  refine lv_ishr hx hb dJ0_length_8abf5_9 ?_
  exact km_iret C hP hD hS dJ0_length_8abf5_10
set_option maxHeartbeats 4000000 in
set_option maxRecDepth 100000 in
theorem kJ3_checkIndex {l : Launch} {D : va_G} {cy : Nat → ClassId} {ad kn kv : Nat → Nat} {x0 x1 : Int32} (h0 : ¬ x0 < 0) (h1 : x0 < x1) {S : RSt} : ∀ o : Option Nat, km_i l D (rw_t cy) (rw_w cy ad) (ke_R kn kv) yJ3_checkIndex_8e157 wsJ3_checkIndex_8e157 { frames := 0, cells := 0, slots := 0, locals := 0 } [.int x0, .int x1, va_rf o] S x0 S := by
  intro o
  refine km_i_in (cc := cJ3_checkIndex_8e157) (nL := 3) (ke_Rok kn kv) (by decide) rfl (by cases o <;> exact (Nat.le_of_ble_eq_true rfl)) ?_
  intro p e s m below meth c A H ls C hP hD hS hl
  have C : km_C p s m _ meth c cJ3_checkIndex_8e157 3 RJ3 wsJ3_checkIndex_8e157 (some .int) D (rw_t cy) (ke_R kn kv) A := C
  obtain ⟨⟨hx, hb, hml, hown, hts⟩, hr, hlk, hK, hA, hE, hEE⟩ := id C
  have hl : lv_has ls 3 [(0, .int x0), (1, .int x1), (2, va_rf o)] := hl
  refine lv_iload_n hx hb dJ3_checkIndex_8e157_0 rfl (lv_at hl 0 rfl) ?_
  refine lv_if_lt (tgt := 9) hx hb dJ3_checkIndex_8e157_1 (by decide) (fun c_1 => absurd c_1 h0) (fun c_1 => ?_)
  refine lv_iload_n hx hb dJ3_checkIndex_8e157_4 rfl (lv_at hl 0 rfl) ?_
  refine lv_iload_n hx hb dJ3_checkIndex_8e157_5 rfl (lv_at hl 1 rfl) ?_
  refine lv_icmp_lt (tgt := 16) hx hb dJ3_checkIndex_8e157_6 (by decide) (fun c_2 => ?_) (fun c_2 => absurd h1 c_2)
  refine lv_iload_n hx hb dJ3_checkIndex_8e157_16 rfl (lv_at hl 0 rfl) ?_
  exact km_iret C hP hD hS dJ3_checkIndex_8e157_17
set_option maxHeartbeats 4000000 in
set_option maxRecDepth 100000 in
theorem kJ0_checkIndex {l : Launch} {D : va_G} {cy : Nat → ClassId} {ad kn kv : Nat → Nat} {x0 x1 : Int32} (h0 : ¬ x0 < 0) (h1 : x0 < x1) {S : RSt} : km_v l D (rw_t cy) (rw_w cy ad) (ke_R kn kv) yJ0_checkIndex_df160 wsJ0_checkIndex_df160 { frames := 1, cells := 0, slots := 0, locals := 22 } [.int x0, .int x1] S S := by
  refine km_v_in (cc := cJ0_checkIndex_df160) (nL := 2) (ke_Rok kn kv) (by decide) rfl (Nat.le_of_ble_eq_true rfl) ?_
  intro p e s m below meth c A H ls C hP hD hS hl
  have C : km_C p s m _ meth c cJ0_checkIndex_df160 2 RJ0 wsJ0_checkIndex_df160 none D (rw_t cy) (ke_R kn kv) A := C
  obtain ⟨⟨hx, hb, hml, hown, hts⟩, hr, hlk, hK, hA, hE, hEE⟩ := id C
  have hl : lv_has ls 2 [(0, .int x0), (1, .int x1)] := hl
  refine lv_iload_n hx hb dJ0_checkIndex_df160_0 rfl (lv_at hl 0 rfl) ?_
  refine lv_iload_n hx hb dJ0_checkIndex_df160_1 rfl (lv_at hl 1 rfl) ?_
  obtain ⟨o, hZ⟩ : ∃ o : Option Nat, va_Z "jdk/internal/util/Preconditions" "SIOOBE_FORMATTER" "Ljava/util/function/BiFunction;" (va_rf o) A s s.heap := by
    rcases hE.2.2.1 with h | ⟨t, h⟩
    · exact ⟨none, h⟩
    · exact ⟨some t, h⟩
  refine va_gets hx hb hZ hS hown (hts (.fieldLink RJ0 1053 "jdk/internal/util/Preconditions" "SIOOBE_FORMATTER" "Ljava/util/function/BiFunction;") (by decide +kernel)) (fun _ h9 => h9) dJ0_checkIndex_df160_2 ?_
  refine km_cSi (As := [.int x0, .int x1, va_rf o]) (rest := []) C (kJ3_checkIndex h0 h1 o) (va_cwS 3 hts gJ0_checkIndex_df160_J3_checkIndex_8e157 rfl rfl rfl (by decide +kernel) ⟨(Nat.le_of_ble_eq_true rfl), (Nat.le_of_ble_eq_true rfl)⟩) rfl hP hD hS hl.1 rfl (Nat.le_of_ble_eq_true rfl) dJ0_checkIndex_df160_5 (fun H locs hP hD hS => ?_)
  refine lv_pop hx hb dJ0_checkIndex_df160_8 rfl ?_
  exact km_vret C hP hD hS dJ0_checkIndex_df160_9
set_option maxHeartbeats 4000000 in
set_option maxRecDepth 100000 in
theorem kJ1_charAt {l : Launch} {D : va_G} {cy : Nat → ClassId} {ad kn kv : Nat → Nat} {w : Nat} (hw : w < 4) {x1 : Int32} (hi : vp_in x1 (js_len.getD w 0)) {S : RSt} : km_i l D (rw_t cy) (rw_w cy ad) (ke_R kn kv) yJ1_charAt_3b067 wsJ1_charAt_3b067 { frames := 2, cells := 0, slots := 0, locals := 43 } [.ref (kv w), .int x1] S (js_c w x1.toNatClampNeg) S := by
  refine km_y_in (ty := .char) (cc := cJ1_charAt_3b067) (nL := 2) (ke_Rok kn kv) (by decide) rfl (Nat.le_of_ble_eq_true rfl) ?_
  intro p e s m below meth c A H ls C hP hD hS hl
  have C : km_C p s m _ meth c cJ1_charAt_3b067 2 RJ1 wsJ1_charAt_3b067 (some .char) D (rw_t cy) (ke_R kn kv) A := C
  obtain ⟨⟨hx, hb, hml, hown, hts⟩, hr, hlk, hK, hA, hE, hEE⟩ := id C
  have hl : lv_has ls 2 [(0, .ref (kv w)), (1, .int x1)] := hl
  have hlen : js_len.getD w 0 < 2 ^ 31 := by
    rcases (show w = 0 ∨ w = 1 ∨ w = 2 ∨ w = 3 by omega) with rfl | rfl | rfl | rfl <;> decide
  obtain ⟨j, hj, ej⟩ := vp_in_of hi hlen
  refine lv_iload_n hx hb dJ1_charAt_3b067_0 rfl (lv_at hl 1 rfl) ?_
  refine lv_aload_n hx hb dJ1_charAt_3b067_1 rfl (lv_at hl 0 rfl) ?_
  refine va_tlen hx hb (js_at hE hw).2.2 hS rfl dJ1_charAt_3b067_2 ?_
  refine km_cSv (As := [.int x1, .int (Int32.ofNat (js_len.getD w 0))]) (rest := []) C (kJ0_checkIndex (x0 := x1) (x1 := Int32.ofNat (js_len.getD w 0)) (by rw [ej]; exact nI_pos (by omega)) (by rw [ej]; exact nI_lt hj hlen)) (va_cwS 2 hts gJ1_charAt_3b067_J0_checkIndex_df160 rfl rfl rfl (by decide +kernel) ⟨(Nat.le_of_ble_eq_true rfl), (Nat.le_of_ble_eq_true rfl)⟩) rfl hP hD hS hl.1 rfl (Nat.le_of_ble_eq_true rfl) dJ1_charAt_3b067_3 (fun H locs hP hD hS => ?_)
  refine lv_aload_n hx hb dJ1_charAt_3b067_6 rfl (lv_at hl 0 rfl) ?_
  refine lv_iload_n hx hb dJ1_charAt_3b067_7 rfl (lv_at hl 1 rfl) ?_
  refine va_tb hx hb (js_at hE hw).2.2 hS hi rfl dJ1_charAt_3b067_8 ?_
  refine lv_sipush (v := 255) hx hb dJ1_charAt_3b067_9 (by decide) ?_
  refine lv_iand hx hb dJ1_charAt_3b067_12 ?_
  refine lv_i2c hx hb dJ1_charAt_3b067_13 rfl ?_
  exact km_yret C (pk_nc _) hP hD hS dJ1_charAt_3b067_14
set_option maxHeartbeats 4000000 in
set_option maxRecDepth 100000 in
theorem kJ0_charAt {l : Launch} {D : va_G} {cy : Nat → ClassId} {ad kn kv : Nat → Nat} {w : Nat} (hw : w < 4) {x1 : Int32} (hi : vp_in x1 (js_len.getD w 0)) {S : RSt} : km_i l D (rw_t cy) (rw_w cy ad) (ke_R kn kv) yJ0_charAt_5068e wsJ0_charAt_5068e { frames := 3, cells := 0, slots := 0, locals := 64 } [.ref (kn w), .int x1] S (js_c w x1.toNatClampNeg) S := by
  refine km_y_in (ty := .char) (cc := cJ0_charAt_5068e) (nL := 2) (ke_Rok kn kv) (by decide) rfl (Nat.le_of_ble_eq_true rfl) ?_
  intro p e s m below meth c A H ls C hP hD hS hl
  have C : km_C p s m _ meth c cJ0_charAt_5068e 2 RJ0 wsJ0_charAt_5068e (some .char) D (rw_t cy) (ke_R kn kv) A := C
  obtain ⟨⟨hx, hb, hml, hown, hts⟩, hr, hlk, hK, hA, hE, hEE⟩ := id C
  have hl : lv_has ls 2 [(0, .ref (kn w)), (1, .int x1)] := hl
  refine lv_aload_n hx hb dJ0_charAt_5068e_0 rfl (lv_at hl 0 rfl) ?_
  refine km_cRi (As := []) (rest := []) C (kJ0_isLatin1 hw) (cwV 0 hts gJ0_charAt_5068e_J0_isLatin1_aae02 rfl rfl rfl (by decide +kernel) ⟨(Nat.le_of_ble_eq_true rfl), (Nat.le_of_ble_eq_true rfl)⟩) (js_rv hE hw hS) rfl hP hD hS hl.1 rfl (Nat.le_of_ble_eq_true rfl) dJ0_charAt_5068e_1 (fun H locs hP hD hS => ?_)
  refine lv_if_eq (tgt := 16) hx hb dJ0_charAt_5068e_4 (by decide) (fun c_1 => absurd c_1 (by decide)) (fun c_1 => ?_)
  refine lv_aload_n hx hb dJ0_charAt_5068e_7 rfl (lv_at hl 0 rfl) ?_
  refine vk_getf hx hb (js_at hE hw).2.1 hS hown (hts (.fieldLink RJ0 9 "java/lang/String" "value" "[B") (by decide +kernel)) (fun _ h9 => h9) dJ0_charAt_5068e_8 ?_
  refine lv_iload_n hx hb dJ0_charAt_5068e_11 rfl (lv_at hl 1 rfl) ?_
  refine km_cSi (As := [.ref (kv w), .int x1]) (rest := []) C (kJ1_charAt hw hi) (va_cwS 2 hts gJ0_charAt_5068e_J1_charAt_3b067 rfl rfl rfl (by decide +kernel) ⟨(Nat.le_of_ble_eq_true rfl), (Nat.le_of_ble_eq_true rfl)⟩) rfl hP hD hS hl.1 rfl (Nat.le_of_ble_eq_true rfl) dJ0_charAt_5068e_12 (fun H locs hP hD hS => ?_)
  exact km_yret C (pk_nc _) hP hD hS dJ0_charAt_5068e_15
theorem vx_ng : ∀ w ∈ (vx_at0 RX4 114 nse_n ["java/lang/RuntimeException", "java/lang/Exception"]).filter (fun w => !goodWord w), w ∈ [Cond.castable nse_n nse_n, .declares ⟨"java/lang/RuntimeException", "<init>", "()V"⟩, .declares ⟨"java/lang/Exception", "<init>", "()V"⟩, .declares ⟨"java/lang/Throwable", "<init>", "()V"⟩] := by decide +kernel
theorem vx_gd : ∀ w ∈ Cond.classLink RX4 112 nse_n :: Cond.initialized nse_n :: vx_at0 RX4 114 nse_n ["java/lang/RuntimeException", "java/lang/Exception"], vx_ot w = true := by decide +kernel
