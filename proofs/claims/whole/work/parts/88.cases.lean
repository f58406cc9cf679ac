/-! The calls of the law, one by one. -/
section LKH
variable {p : Program} {l : Launch} {e : Env} {R : Room} {s : State} {m : MethodId} {args : Array Value} {below : List Frame} {meth : Method} {c : Code} {H : Heap} {locs : List Loc} {cells slots : Nat} {Q : State → Prop} {cc : ByteArray} {pc nL : Nat} {ls : Array Slot} {own : String} {Ts : List Cond} {ret : Option FieldType} {D : va_G} {A : Nat → Prop}
/-- a helper is called -/
theorem lk_h {cy : Nat → ClassId} {ad am : Nat → Nat} {ao : Nat} {kn kv : Nat → Nat} {S1 S1' S2 : RSt} {f f' : Nat → Int64} {k : Int32} {y : MethodName} {ws : List Cond} {rm : Room} {av rest st : List Value} {index maxL n : Nat} {bytes : ByteArray} {rt : Option FieldType} {hh : List (Nat × Nat × Nat × Nat)} (C : km_C p s m args meth c cc nL own Ts ret D (rw_t cy) (ke_R kn kv) A) (J : lk_I D cy ad am ao A S1 S2 f H) (hM : lh_M l D cy ad ao kn kv y ws rm av S1 f k S1' f') (cw : vx_CSW R s args own index y bytes maxL rt hh ws rm 1 6 n) (hn : av.length = n) (hS : va_S A s.heap H locs) (hls : ls.size = nL) (hst : st = av.reverse ++ rest) (hroom : (rest.map fun v => v.category).sum ≤ 8) (hf : cells + 1 ≤ R.cells ∧ slots + 6 ≤ R.slots) (hdg : decode cc pc = .ok (.invokestatic index, 3))
    (kk : ∀ (H1 : Heap) (locs1 : List Loc), lk_I D cy ad am ao A S1' S2 f' H1 → va_S A s.heap H1 locs1 → W p l e R s m args below meth c H1 locs1 (cells + 1) (slots + 6) Q (F0 m (pc + 3) ls (.int k :: rest))) : W p l e R s m args below meth c H locs cells slots Q (F0 m pc ls st) := by
  obtain ⟨CF, hr, hlk, hK, hA, hE, hEE⟩ := id C
  have hao : A ao := J.2.2.1.2.2 0 _ rfl
  have hfree : ∀ q, lh_A cy ad ao S1 H.size q → A q := by
    rintro q (h | rfl)
    · exact km_free C J.1.2 hS q h
    · exact hao
  refine va_calli (vx_runSW (As := av) (rest := rest) CF (hM H.size) cw ⟨lh_blind, fun U hU hW => ⟨rfl, by rw [hU], by rw [hU]; exact J.1.1, by rw [hU]; exact J.2.2.1.1, va_K.moved hW.alike hK, J.1.2.weaken (fun _ _ _ _ => trivial), J.2.2.2.2.1, by rw [hU]; exact hEE.2.1 _ _ _ _ hW (hEE.2.2.2 _ _ _ _ hfree (hEE.2.2.1 _ _ _ _ hS.2.1 hE))⟩⟩ rfl hn hls hst (lv_room hroom) hdg hf) hS (fun q _ h => hfree q h) hfree (fun r' u t H1 locs1 ht hvm hw hB hz1 hk1 hS1 => ?_)
  obtain ⟨rfl, rfl⟩ := hw
  obtain ⟨hP1, hO1⟩ := hB
  rw [ht] at hP1 hO1
  refine kk H1 locs1 ⟨⟨hP1, rw_D J.1.2⟩, ⟨J.2.1.1.kept (fun k9 x hx => hk1 x.1 (J.2.1.1 k9 x hx).lt ?_), J.2.1.2⟩, ⟨hO1, ow_D hao⟩, J.2.2.2⟩ hS1
  obtain ⟨h3, h4⟩ := mw_k hx
  rintro ((⟨i, e9, h⟩ | h) | h)
  · obtain ⟨h1, h2⟩ := rw_k h
    exact J.2.2.2.1 i k9 h1 h3 (h2.symm.trans h4)
  · exact absurd (J.2.1.1 k9 x hx).lt (Nat.not_lt.mpr h)
  · exact J.2.2.2.2.2 k9 h3 (h4.symm.trans h)
end LKH
theorem lh_v {f : Nat → Int64} {v : Int64} : vp_updL f 0 v (Int32.toNatClampNeg 0) = v := by
  simp [vp_updL]
theorem lg_self {x y : Int64} (h : x = y) : lg_cmp x y = 0 := (lg_cmp_eq x y).mpr h
def lw_H (p : Program) (l : Launch) (s : State) (m : MethodId) (b L : Nat) (xs : Nat → Int32) (meth : Method) (c : Code) (D : va_G) (cy : Nat → ClassId) (kn kv : Nat → Nat) (A : Nat → Prop) : Prop := km_C p s m #[Value.ref b] meth c code 8 RL wsL_law ret D (rw_t cy) (ke_R kn kv) A ∧ km_C p s m #[Value.ref b] meth c code 8 RL wsL_law ret D (mw_t cy) ke_0 A ∧ va_X b L xs s s.heap ∧ b < s.heap.size ∧ ¬ A b ∧ l.stackTraces = false
abbrev lw_ls (b : Nat) (ad am : Nat → Nat) (ao : Nat) (x4 : Int32) : List (Nat × Value) := [(0, .ref b), (1, .ref (ad 17)), (2, .ref (am 0)), (3, .ref ao), (4, .int x4)]
def lw_K (p : Program) (l : Launch) (e : Env) (s : State) (m : MethodId) (b : Nat) (below : List Frame) (meth : Method) (c : Code) (D : va_G) (cy : Nat → ClassId) (ad am : Nat → Nat) (ao : Nat) (A : Nat → Prop) (x4 : Int32) (cells slots : Nat) (Q : State → Prop) : Prop := ∀ (S1 S2 : RSt) (σ : AS) (f : Nat → Int64) (H : Heap) (locs : List Loc) (ls : Array Slot), JJ S1 S2 σ → lk_I D cy ad am ao A S1 S2 f H → va_S A s.heap H locs → lv_has ls 8 (lw_ls b ad am ao x4) → W p l e room_1 s m #[Value.ref b] below meth c H locs (cells + 1) (slots + 6) Q (F0 m 1077 ls [])
section LWC
variable {p : Program} {l : Launch} {e : Env} {s : State} {m : MethodId} {below : List Frame} {meth : Method} {c : Code} {H : Heap} {locs : List Loc} {cells slots : Nat} {Q : State → Prop} {ls : Array Slot} {D : va_G} {cy : Nat → ClassId} {ad am : Nat → Nat} {ao : Nat} {kn kv : Nat → Nat} {A : Nat → Prop} {b L : Nat} {xs : Nat → Int32} {S1 S2 : RSt} {σ : AS} {f : Nat → Int64} {x4 : Int32}
set_option maxHeartbeats 4000000 in
set_option maxRecDepth 100000 in
/-- feed -/
theorem lw_c0 (G : lw_H p l s m b L xs meth c D cy kn kv A) (h1 : vp_in (x4 + 1) L) (h2 : vp_in (x4 + 2) L) (h3 : vp_in (x4 + 3) L) (h4 : vp_in (x4 + 4) L) (h5 : vp_in (x4 + 5) L) (J0 : JJ S1 S2 σ) (J : lk_I D cy ad am ao A S1 S2 f H) (hS : va_S A s.heap H locs) (hl : lv_has ls 8 (lw_ls b ad am ao x4)) (hf : cells + 1 ≤ room_1.cells ∧ slots + 6 ≤ room_1.slots) (kk : lw_K p l e s m b below meth c D cy ad am ao A x4 cells slots Q) : W p l e room_1 s m #[Value.ref b] below meth c H locs cells slots Q (F0 m 140 ls []) := by
  obtain ⟨⟨⟨hx, hb, hml, hown, hts⟩, hr, hlk, hK, hA, hE, hEE⟩, C2, hX, hbl, hbA, hst⟩ := id G
  have C1 := G.1
  have hf0 : cells ≤ room_1.cells ∧ slots ≤ room_1.slots := ⟨by omega, by omega⟩
  obtain ⟨r, S1', S2', σ', e1, e2, J1⟩ := jn_R J0 (J_feed J0.1 J0.2.1 (xs (x4 + 1).toNatClampNeg) (xs (x4 + 2).toNatClampNeg) (xs (x4 + 3).toNatClampNeg) (xs (x4 + 4).toNatClampNeg) (xs (x4 + 5).toNatClampNeg))
  refine lv_aload_n hx hb dL_law_140 rfl (lv_at hl 1 rfl) ?_
  refine lk_arg (k := 1) (v := 1) hx hb hX hbl hbA hS hl (i0 := 0) (i4 := 4) rfl rfl (by decide) h1 dL_law_141 dL_law_142 dL_law_144 dL_law_145 dL_law_146 ?_
  refine lk_arg (k := 2) (v := 2) hx hb hX hbl hbA hS hl (i0 := 0) (i4 := 4) rfl rfl (by decide) h2 dL_law_147 dL_law_148 dL_law_150 dL_law_151 dL_law_152 ?_
  refine lk_arg (k := 3) (v := 3) hx hb hX hbl hbA hS hl (i0 := 0) (i4 := 4) rfl rfl (by decide) h3 dL_law_153 dL_law_154 dL_law_156 dL_law_157 dL_law_158 ?_
  refine lk_arg (k := 4) (v := 4) hx hb hX hbl hbA hS hl (i0 := 0) (i4 := 4) rfl rfl (by decide) h4 dL_law_159 dL_law_160 dL_law_162 dL_law_163 dL_law_164 ?_
  refine lk_arg (k := 5) (v := 5) hx hb hX hbl hbA hS hl (i0 := 0) (i4 := 4) rfl rfl (by decide) h5 dL_law_165 dL_law_166 dL_law_168 dL_law_169 dL_law_170 ?_
  refine lc_i (As := [.int (xs (x4 + 1).toNatClampNeg), .int (xs (x4 + 2).toNatClampNeg), .int (xs (x4 + 3).toNatClampNeg), .int (xs (x4 + 4).toNatClampNeg), .int (xs (x4 + 5).toNatClampNeg)]) (rest := []) C1 J (kX4_feed hEE e1) (cwV 5 hts gL_law_X4_feed rfl rfl rfl (by decide +kernel) ⟨Nat.le_of_ble_eq_true rfl, Nat.le_of_ble_eq_true rfl⟩) rfl hS hl.1 rfl (Nat.le_of_ble_eq_true rfl) hf0 dL_law_171 (fun H locs J hS => ?_)
  refine lv_aload_n hx hb dL_law_174 rfl (lv_at hl 2 rfl) ?_
  refine lk_arg (k := 1) (v := 1) hx hb hX hbl hbA hS hl (i0 := 0) (i4 := 4) rfl rfl (by decide) h1 dL_law_175 dL_law_176 dL_law_178 dL_law_179 dL_law_180 ?_
  refine lk_arg (k := 2) (v := 2) hx hb hX hbl hbA hS hl (i0 := 0) (i4 := 4) rfl rfl (by decide) h2 dL_law_181 dL_law_182 dL_law_184 dL_law_185 dL_law_186 ?_
  refine lk_arg (k := 3) (v := 3) hx hb hX hbl hbA hS hl (i0 := 0) (i4 := 4) rfl rfl (by decide) h3 dL_law_187 dL_law_188 dL_law_190 dL_law_191 dL_law_192 ?_
  refine lk_arg (k := 4) (v := 4) hx hb hX hbl hbA hS hl (i0 := 0) (i4 := 4) rfl rfl (by decide) h4 dL_law_193 dL_law_194 dL_law_196 dL_law_197 dL_law_198 ?_
  refine lk_arg (k := 5) (v := 5) hx hb hX hbl hbA hS hl (i0 := 0) (i4 := 4) rfl rfl (by decide) h5 dL_law_199 dL_law_200 dL_law_202 dL_law_203 dL_law_204 ?_
  refine lm_i (As := [.int (xs (x4 + 1).toNatClampNeg), .int (xs (x4 + 2).toNatClampNeg), .int (xs (x4 + 3).toNatClampNeg), .int (xs (x4 + 4).toNatClampNeg), .int (xs (x4 + 5).toNatClampNeg)]) (rest := [.int r]) C2 J (kX5_feed ke_0ok e2) (cwV 5 hts gL_law_X5_feed rfl rfl rfl (by decide +kernel) ⟨Nat.le_of_ble_eq_true rfl, Nat.le_of_ble_eq_true rfl⟩) rfl hS hl.1 rfl (Nat.le_of_ble_eq_true rfl) hf0 dL_law_205 (fun H locs J hS => ?_)
  refine lv_icmp_eq (tgt := 1077) hx hb dL_law_208 (by decide) (fun c_1 => ?_) (fun c_1 => ?_)
  · exact W.widen (k := cells + 1) (n := slots + 6) (by omega) (by omega) (kk S1' S2' σ' f H locs ls J1 J hS hl)
  · exact absurd rfl c_1
set_option maxHeartbeats 4000000 in
set_option maxRecDepth 100000 in
/-- end -/
theorem lw_c1 (G : lw_H p l s m b L xs meth c D cy kn kv A) (h1 : vp_in (x4 + 1) L) (h2 : vp_in (x4 + 2) L) (h3 : vp_in (x4 + 3) L) (h4 : vp_in (x4 + 4) L) (h5 : vp_in (x4 + 5) L) (J0 : JJ S1 S2 σ) (J : lk_I D cy ad am ao A S1 S2 f H) (hS : va_S A s.heap H locs) (hl : lv_has ls 8 (lw_ls b ad am ao x4)) (hf : cells + 1 ≤ room_1.cells ∧ slots + 6 ≤ room_1.slots) (kk : lw_K p l e s m b below meth c D cy ad am ao A x4 cells slots Q) : W p l e room_1 s m #[Value.ref b] below meth c H locs cells slots Q (F0 m 213 ls []) := by
  obtain ⟨⟨⟨hx, hb, hml, hown, hts⟩, hr, hlk, hK, hA, hE, hEE⟩, C2, hX, hbl, hbA, hst⟩ := id G
  have C1 := G.1
  have hf0 : cells ≤ room_1.cells ∧ slots ≤ room_1.slots := ⟨by omega, by omega⟩
  obtain ⟨r, S1', S2', σ', e1, e2, J1⟩ := jn_R J0 (J_end J0.1 J0.2.1 (xs (x4 + 1).toNatClampNeg))
  refine lv_aload_n hx hb dL_law_213 rfl (lv_at hl 1 rfl) ?_
  refine lk_arg (k := 1) (v := 1) hx hb hX hbl hbA hS hl (i0 := 0) (i4 := 4) rfl rfl (by decide) h1 dL_law_214 dL_law_215 dL_law_217 dL_law_218 dL_law_219 ?_
  refine lc_z (As := [.int (xs (x4 + 1).toNatClampNeg)]) (rest := []) C1 J (kX4_end hEE e1) (cwV 1 hts gL_law_X4_end rfl rfl rfl (by decide +kernel) ⟨Nat.le_of_ble_eq_true rfl, Nat.le_of_ble_eq_true rfl⟩) rfl hS hl.1 rfl (Nat.le_of_ble_eq_true rfl) hf0 dL_law_220 (fun H locs J hS => ?_)
  refine lv_aload_n hx hb dL_law_223 rfl (lv_at hl 2 rfl) ?_
  refine lk_arg (k := 1) (v := 1) hx hb hX hbl hbA hS hl (i0 := 0) (i4 := 4) rfl rfl (by decide) h1 dL_law_224 dL_law_225 dL_law_227 dL_law_228 dL_law_229 ?_
  refine lm_z (As := [.int (xs (x4 + 1).toNatClampNeg)]) (rest := [.int r]) C2 J (kX5_end ke_0ok e2) (cwV 1 hts gL_law_X5_end rfl rfl rfl (by decide +kernel) ⟨Nat.le_of_ble_eq_true rfl, Nat.le_of_ble_eq_true rfl⟩) rfl hS hl.1 rfl (Nat.le_of_ble_eq_true rfl) hf0 dL_law_230 (fun H locs J hS => ?_)
  refine lv_icmp_eq (tgt := 1077) hx hb dL_law_233 (by decide) (fun c_1 => ?_) (fun c_1 => ?_)
  · exact W.widen (k := cells + 1) (n := slots + 6) (by omega) (by omega) (kk S1' S2' σ' f H locs ls J1 J hS hl)
  · exact absurd rfl c_1
set_option maxHeartbeats 4000000 in
set_option maxRecDepth 100000 in
/-- text -/
theorem lw_c2 (G : lw_H p l s m b L xs meth c D cy kn kv A) (h1 : vp_in (x4 + 1) L) (h2 : vp_in (x4 + 2) L) (h3 : vp_in (x4 + 3) L) (h4 : vp_in (x4 + 4) L) (h5 : vp_in (x4 + 5) L) (J0 : JJ S1 S2 σ) (J : lk_I D cy ad am ao A S1 S2 f H) (hS : va_S A s.heap H locs) (hl : lv_has ls 8 (lw_ls b ad am ao x4)) (hf : cells + 1 ≤ room_1.cells ∧ slots + 6 ≤ room_1.slots) (kk : lw_K p l e s m b below meth c D cy ad am ao A x4 cells slots Q) : W p l e room_1 s m #[Value.ref b] below meth c H locs cells slots Q (F0 m 238 ls []) := by
  obtain ⟨⟨⟨hx, hb, hml, hown, hts⟩, hr, hlk, hK, hA, hE, hEE⟩, C2, hX, hbl, hbA, hst⟩ := id G
  have C1 := G.1
  have hf0 : cells ≤ room_1.cells ∧ slots ≤ room_1.slots := ⟨by omega, by omega⟩
  obtain ⟨r, S1', S2', σ', e1, e2, J1⟩ := J_text J0 
  refine lv_aload_n hx hb dL_law_238 rfl (lv_at hl 1 rfl) ?_
  refine lc_i (As := []) (rest := []) C1 J (kX4_text hEE e1) (cwV 0 hts gL_law_X4_text rfl rfl rfl (by decide +kernel) ⟨Nat.le_of_ble_eq_true rfl, Nat.le_of_ble_eq_true rfl⟩) rfl hS hl.1 rfl (Nat.le_of_ble_eq_true rfl) hf0 dL_law_239 (fun H locs J hS => ?_)
  refine lv_aload_n hx hb dL_law_242 rfl (lv_at hl 2 rfl) ?_
  refine lm_i (As := []) (rest := [.int r]) C2 J (kX5_text ke_0ok e2) (cwV 0 hts gL_law_X5_text rfl rfl rfl (by decide +kernel) ⟨Nat.le_of_ble_eq_true rfl, Nat.le_of_ble_eq_true rfl⟩) rfl hS hl.1 rfl (Nat.le_of_ble_eq_true rfl) hf0 dL_law_243 (fun H locs J hS => ?_)
  refine lv_icmp_eq (tgt := 1077) hx hb dL_law_246 (by decide) (fun c_1 => ?_) (fun c_1 => ?_)
  · exact W.widen (k := cells + 1) (n := slots + 6) (by omega) (by omega) (kk S1' S2' σ' f H locs ls J1 J hS hl)
  · exact absurd rfl c_1
set_option maxHeartbeats 4000000 in
set_option maxRecDepth 100000 in
/-- fault -/
theorem lw_c3 (G : lw_H p l s m b L xs meth c D cy kn kv A) (h1 : vp_in (x4 + 1) L) (h2 : vp_in (x4 + 2) L) (h3 : vp_in (x4 + 3) L) (h4 : vp_in (x4 + 4) L) (h5 : vp_in (x4 + 5) L) (J0 : JJ S1 S2 σ) (J : lk_I D cy ad am ao A S1 S2 f H) (hS : va_S A s.heap H locs) (hl : lv_has ls 8 (lw_ls b ad am ao x4)) (hf : cells + 1 ≤ room_1.cells ∧ slots + 6 ≤ room_1.slots) (kk : lw_K p l e s m b below meth c D cy ad am ao A x4 cells slots Q) : W p l e room_1 s m #[Value.ref b] below meth c H locs cells slots Q (F0 m 251 ls []) := by
  obtain ⟨⟨⟨hx, hb, hml, hown, hts⟩, hr, hlk, hK, hA, hE, hEE⟩, C2, hX, hbl, hbA, hst⟩ := id G
  have C1 := G.1
  have hf0 : cells ≤ room_1.cells ∧ slots ≤ room_1.slots := ⟨by omega, by omega⟩
  obtain ⟨r, S1', S2', σ', e1, e2, J1⟩ := jn_R J0 (J_fault J0.1 J0.2.1 )
  refine lv_aload_n hx hb dL_law_251 rfl (lv_at hl 1 rfl) ?_
  refine lc_i (As := []) (rest := []) C1 J (kX4_fault hEE e1) (cwV 0 hts gL_law_X4_fault rfl rfl rfl (by decide +kernel) ⟨Nat.le_of_ble_eq_true rfl, Nat.le_of_ble_eq_true rfl⟩) rfl hS hl.1 rfl (Nat.le_of_ble_eq_true rfl) hf0 dL_law_252 (fun H locs J hS => ?_)
  refine lv_aload_n hx hb dL_law_255 rfl (lv_at hl 2 rfl) ?_
  refine lm_i (As := []) (rest := [.int r]) C2 J (kX5_fault ke_0ok e2) (cwV 0 hts gL_law_X5_fault rfl rfl rfl (by decide +kernel) ⟨Nat.le_of_ble_eq_true rfl, Nat.le_of_ble_eq_true rfl⟩) rfl hS hl.1 rfl (Nat.le_of_ble_eq_true rfl) hf0 dL_law_256 (fun H locs J hS => ?_)
  refine lv_icmp_eq (tgt := 1077) hx hb dL_law_259 (by decide) (fun c_1 => ?_) (fun c_1 => ?_)
  · exact W.widen (k := cells + 1) (n := slots + 6) (by omega) (by omega) (kk S1' S2' σ' f H locs ls J1 J hS hl)
  · exact absurd rfl c_1
set_option maxHeartbeats 4000000 in
set_option maxRecDepth 100000 in
/-- now -/
theorem lw_c4 (G : lw_H p l s m b L xs meth c D cy kn kv A) (h1 : vp_in (x4 + 1) L) (h2 : vp_in (x4 + 2) L) (h3 : vp_in (x4 + 3) L) (h4 : vp_in (x4 + 4) L) (h5 : vp_in (x4 + 5) L) (J0 : JJ S1 S2 σ) (J : lk_I D cy ad am ao A S1 S2 f H) (hS : va_S A s.heap H locs) (hl : lv_has ls 8 (lw_ls b ad am ao x4)) (hf : cells + 1 ≤ room_1.cells ∧ slots + 6 ≤ room_1.slots) (kk : lw_K p l e s m b below meth c D cy ad am ao A x4 cells slots Q) : W p l e room_1 s m #[Value.ref b] below meth c H locs cells slots Q (F0 m 264 ls []) := by
  obtain ⟨⟨⟨hx, hb, hml, hown, hts⟩, hr, hlk, hK, hA, hE, hEE⟩, C2, hX, hbl, hbA, hst⟩ := id G
  have C1 := G.1
  have hf0 : cells ≤ room_1.cells ∧ slots ≤ room_1.slots := ⟨by omega, by omega⟩
  obtain ⟨r, S1', S2', σ', e1, e2, J1⟩ := J_now J0 (xs (x4 + 1).toNatClampNeg)
  refine lv_aload_n hx hb dL_law_264 rfl (lv_at hl 1 rfl) ?_
  refine lk_arg (k := 1) (v := 1) hx hb hX hbl hbA hS hl (i0 := 0) (i4 := 4) rfl rfl (by decide) h1 dL_law_265 dL_law_266 dL_law_268 dL_law_269 dL_law_270 ?_
  refine lc_i (As := [.int (xs (x4 + 1).toNatClampNeg)]) (rest := []) C1 J (kX4_now hEE e1) (cwV 1 hts gL_law_X4_now rfl rfl rfl (by decide +kernel) ⟨Nat.le_of_ble_eq_true rfl, Nat.le_of_ble_eq_true rfl⟩) rfl hS hl.1 rfl (Nat.le_of_ble_eq_true rfl) hf0 dL_law_271 (fun H locs J hS => ?_)
  refine lv_aload_n hx hb dL_law_274 rfl (lv_at hl 2 rfl) ?_
  refine lk_arg (k := 1) (v := 1) hx hb hX hbl hbA hS hl (i0 := 0) (i4 := 4) rfl rfl (by decide) h1 dL_law_275 dL_law_276 dL_law_278 dL_law_279 dL_law_280 ?_
  refine lm_i (As := [.int (xs (x4 + 1).toNatClampNeg)]) (rest := [.int r]) C2 J (kX5_now ke_0ok e2) (cwV 1 hts gL_law_X5_now rfl rfl rfl (by decide +kernel) ⟨Nat.le_of_ble_eq_true rfl, Nat.le_of_ble_eq_true rfl⟩) rfl hS hl.1 rfl (Nat.le_of_ble_eq_true rfl) hf0 dL_law_281 (fun H locs J hS => ?_)
  refine lv_icmp_eq (tgt := 1077) hx hb dL_law_284 (by decide) (fun c_1 => ?_) (fun c_1 => ?_)
  · exact W.widen (k := cells + 1) (n := slots + 6) (by omega) (by omega) (kk S1' S2' σ' f H locs ls J1 J hS hl)
  · exact absurd rfl c_1
set_option maxHeartbeats 4000000 in
set_option maxRecDepth 100000 in
/-- level -/
theorem lw_c5 (G : lw_H p l s m b L xs meth c D cy kn kv A) (h1 : vp_in (x4 + 1) L) (h2 : vp_in (x4 + 2) L) (h3 : vp_in (x4 + 3) L) (h4 : vp_in (x4 + 4) L) (h5 : vp_in (x4 + 5) L) (J0 : JJ S1 S2 σ) (J : lk_I D cy ad am ao A S1 S2 f H) (hS : va_S A s.heap H locs) (hl : lv_has ls 8 (lw_ls b ad am ao x4)) (hf : cells + 1 ≤ room_1.cells ∧ slots + 6 ≤ room_1.slots) (kk : lw_K p l e s m b below meth c D cy ad am ao A x4 cells slots Q) : W p l e room_1 s m #[Value.ref b] below meth c H locs cells slots Q (F0 m 289 ls []) := by
  obtain ⟨⟨⟨hx, hb, hml, hown, hts⟩, hr, hlk, hK, hA, hE, hEE⟩, C2, hX, hbl, hbA, hst⟩ := id G
  have C1 := G.1
  have hf0 : cells ≤ room_1.cells ∧ slots ≤ room_1.slots := ⟨by omega, by omega⟩
  obtain ⟨r, S1', S2', σ', e1, e2, J1⟩ := jn_R J0 (J_level J0.1 J0.2.1 (xs (x4 + 1).toNatClampNeg) (xs (x4 + 2).toNatClampNeg))
  refine lv_aload_n hx hb dL_law_289 rfl (lv_at hl 1 rfl) ?_
  refine lk_arg (k := 1) (v := 1) hx hb hX hbl hbA hS hl (i0 := 0) (i4 := 4) rfl rfl (by decide) h1 dL_law_290 dL_law_291 dL_law_293 dL_law_294 dL_law_295 ?_
  refine lk_arg (k := 2) (v := 2) hx hb hX hbl hbA hS hl (i0 := 0) (i4 := 4) rfl rfl (by decide) h2 dL_law_296 dL_law_297 dL_law_299 dL_law_300 dL_law_301 ?_
  refine lc_i (As := [.int (xs (x4 + 1).toNatClampNeg), .int (xs (x4 + 2).toNatClampNeg)]) (rest := []) C1 J (kX4_level hEE e1) (cwV 2 hts gL_law_X4_level rfl rfl rfl (by decide +kernel) ⟨Nat.le_of_ble_eq_true rfl, Nat.le_of_ble_eq_true rfl⟩) rfl hS hl.1 rfl (Nat.le_of_ble_eq_true rfl) hf0 dL_law_302 (fun H locs J hS => ?_)
  refine lv_aload_n hx hb dL_law_305 rfl (lv_at hl 2 rfl) ?_
  refine lk_arg (k := 1) (v := 1) hx hb hX hbl hbA hS hl (i0 := 0) (i4 := 4) rfl rfl (by decide) h1 dL_law_306 dL_law_307 dL_law_309 dL_law_310 dL_law_311 ?_
  refine lk_arg (k := 2) (v := 2) hx hb hX hbl hbA hS hl (i0 := 0) (i4 := 4) rfl rfl (by decide) h2 dL_law_312 dL_law_313 dL_law_315 dL_law_316 dL_law_317 ?_
  refine lm_i (As := [.int (xs (x4 + 1).toNatClampNeg), .int (xs (x4 + 2).toNatClampNeg)]) (rest := [.int r]) C2 J (kX5_level ke_0ok e2) (cwV 2 hts gL_law_X5_level rfl rfl rfl (by decide +kernel) ⟨Nat.le_of_ble_eq_true rfl, Nat.le_of_ble_eq_true rfl⟩) rfl hS hl.1 rfl (Nat.le_of_ble_eq_true rfl) hf0 dL_law_318 (fun H locs J hS => ?_)
  refine lv_icmp_eq (tgt := 1077) hx hb dL_law_321 (by decide) (fun c_1 => ?_) (fun c_1 => ?_)
  · exact W.widen (k := cells + 1) (n := slots + 6) (by omega) (by omega) (kk S1' S2' σ' f H locs ls J1 J hS hl)
  · exact absurd rfl c_1
set_option maxHeartbeats 4000000 in
set_option maxRecDepth 100000 in
/-- pair -/
theorem lw_c6 (G : lw_H p l s m b L xs meth c D cy kn kv A) (h1 : vp_in (x4 + 1) L) (h2 : vp_in (x4 + 2) L) (h3 : vp_in (x4 + 3) L) (h4 : vp_in (x4 + 4) L) (h5 : vp_in (x4 + 5) L) (J0 : JJ S1 S2 σ) (J : lk_I D cy ad am ao A S1 S2 f H) (hS : va_S A s.heap H locs) (hl : lv_has ls 8 (lw_ls b ad am ao x4)) (hf : cells + 1 ≤ room_1.cells ∧ slots + 6 ≤ room_1.slots) (kk : lw_K p l e s m b below meth c D cy ad am ao A x4 cells slots Q) : W p l e room_1 s m #[Value.ref b] below meth c H locs cells slots Q (F0 m 326 ls []) := by
  obtain ⟨⟨⟨hx, hb, hml, hown, hts⟩, hr, hlk, hK, hA, hE, hEE⟩, C2, hX, hbl, hbA, hst⟩ := id G
  have C1 := G.1
  obtain ⟨r, S1', S2', σ', e1, e2, e3, J1⟩ := J_pair J0 (xs (x4 + 1).toNatClampNeg) (xs (x4 + 2).toNatClampNeg)
  refine lv_aload_n hx hb dL_law_326 rfl (lv_at hl 1 rfl) ?_
  refine lk_arg (k := 1) (v := 1) hx hb hX hbl hbA hS hl (i0 := 0) (i4 := 4) rfl rfl (by decide) h1 dL_law_327 dL_law_328 dL_law_330 dL_law_331 dL_law_332 ?_
  refine lk_arg (k := 2) (v := 2) hx hb hX hbl hbA hS hl (i0 := 0) (i4 := 4) rfl rfl (by decide) h2 dL_law_333 dL_law_334 dL_law_336 dL_law_337 dL_law_338 ?_
  refine lv_aload_n hx hb dL_law_339 rfl (lv_at hl 3 rfl) ?_
  refine lk_h (av := [.ref (ad 17), .int (xs (x4 + 1).toNatClampNeg), .int (xs (x4 + 2).toNatClampNeg), .ref ao]) (rest := []) C1 J (kL_pair hst e1) (vx_cwSW 4 hts gL_law_L_pair rfl rfl rfl (by decide +kernel) ⟨Nat.le_of_ble_eq_true rfl, Nat.le_of_ble_eq_true rfl⟩) rfl hS hl.1 rfl (Nat.le_of_ble_eq_true rfl) hf dL_law_340 (fun H locs J hS => ?_)
  refine lv_istore (lv' := (5, .int (lh_ki r)) :: lw_ls b ad am ao x4) hx hb dL_law_343 hl (by decide) rfl (fun ls hl => ?_)
  refine lv_aload_n hx hb dL_law_345 rfl (lv_at hl 3 rfl) ?_
  refine lk_arg (k := 1) (v := 1) hx hb hX hbl hbA hS hl (i0 := 1) (i4 := 5) rfl rfl (by decide) h1 dL_law_346 dL_law_347 dL_law_349 dL_law_350 dL_law_351 ?_
  refine lk_arg (k := 2) (v := 2) hx hb hX hbl hbA hS hl (i0 := 1) (i4 := 5) rfl rfl (by decide) h2 dL_law_352 dL_law_353 dL_law_355 dL_law_356 dL_law_357 ?_
  refine lm_i (As := [.int (xs (x4 + 1).toNatClampNeg), .int (xs (x4 + 2).toNatClampNeg)]) (rest := []) C2 J (kX5_pair ke_0ok e2) (cwV 2 hts gL_law_X5_pair rfl rfl rfl (by decide +kernel) ⟨Nat.le_of_ble_eq_true rfl, Nat.le_of_ble_eq_true rfl⟩) rfl hS hl.1 rfl (Nat.le_of_ble_eq_true rfl) hf dL_law_358 (fun H locs J hS => ?_)
  refine lv_istore (lv' := (6, .int (r.getD 0)) :: (5, .int (lh_ki r)) :: lw_ls b ad am ao x4) hx hb dL_law_361 hl (by decide) rfl (fun ls hl => ?_)
  refine lv_aload_n hx hb dL_law_363 rfl (lv_at hl 4 rfl) ?_
  refine lm_i (As := []) (rest := []) C2 J (kX5_thrown ke_0ok rfl) (cwV 0 hts gL_law_X5_thrown rfl rfl rfl (by decide +kernel) ⟨Nat.le_of_ble_eq_true rfl, Nat.le_of_ble_eq_true rfl⟩) rfl hS hl.1 rfl (Nat.le_of_ble_eq_true rfl) hf dL_law_364 (fun H locs J hS => ?_)
  refine lv_iload hx hb dL_law_367 (lv_at hl 1 rfl) ?_
  refine lv_icmp_eq (tgt := 374) hx hb dL_law_369 (by decide) (fun c_1 => ?_) (fun c_1 => absurd e3 c_1)
  refine lv_iload hx hb dL_law_374 (lv_at hl 1 rfl) ?_
  have hend : ∀ {H : Heap} {locs : List Loc}, lk_I D cy ad am ao A S1' S2' (lh_fi r f) H → va_S A s.heap H locs → W p l e room_1 s m #[Value.ref b] below meth c H locs (cells + 1) (slots + 6) Q (F0 m 391 ls []) := fun J hS => lv_goto (tgt := 1077) hx hb dL_law_391 (by decide) (kk S1' S2' σ' _ _ _ ls J1 J hS (lv_sub hl [2, 3, 4, 5, 6] rfl))
  refine lv_if_ne (tgt := 391) hx hb dL_law_376 (by decide) (fun c_2 => hend J hS) (fun c_2 => ?_)
  obtain ⟨v, rfl⟩ : ∃ v, r = some v := by
    cases r with
    | none => exact absurd c_2 (show ¬ (1 : Int32) = 0 by decide)
    | some v => exact ⟨v, rfl⟩
  refine lv_aload_n hx hb dL_law_379 rfl (lv_at hl 5 rfl) ?_
  refine lv_iconst (v := 0) hx hb dL_law_380 (by decide) ?_
  refine va_lald hx hb hK J.2.2.1.1 0 1 rfl rfl vi_01 dL_law_381 ?_
  refine lv_iload hx hb dL_law_382 (lv_at hl 0 rfl) ?_
  refine lv_i2l (v := v.toInt64) hx hb dL_law_384 rfl ?_
  refine W.lcmp hx hb dL_law_385 ?_
  exact lv_if_eq (tgt := 391) hx hb dL_law_386 (by decide) (fun c_3 => hend J hS) (fun c_3 => absurd (lg_self lh_v) c_3)
set_option maxHeartbeats 4000000 in
set_option maxRecDepth 100000 in
/-- part -/
theorem lw_c7 (G : lw_H p l s m b L xs meth c D cy kn kv A) (h1 : vp_in (x4 + 1) L) (h2 : vp_in (x4 + 2) L) (h3 : vp_in (x4 + 3) L) (h4 : vp_in (x4 + 4) L) (h5 : vp_in (x4 + 5) L) (J0 : JJ S1 S2 σ) (J : lk_I D cy ad am ao A S1 S2 f H) (hS : va_S A s.heap H locs) (hl : lv_has ls 8 (lw_ls b ad am ao x4)) (hf : cells + 1 ≤ room_1.cells ∧ slots + 6 ≤ room_1.slots) (kk : lw_K p l e s m b below meth c D cy ad am ao A x4 cells slots Q) : W p l e room_1 s m #[Value.ref b] below meth c H locs cells slots Q (F0 m 394 ls []) := by
  obtain ⟨⟨⟨hx, hb, hml, hown, hts⟩, hr, hlk, hK, hA, hE, hEE⟩, C2, hX, hbl, hbA, hst⟩ := id G
  have C1 := G.1
  have hf0 : cells ≤ room_1.cells ∧ slots ≤ room_1.slots := ⟨by omega, by omega⟩
  obtain ⟨r, S1', S2', σ', e1, e2, J1⟩ := J_part J0 (xs (x4 + 1).toNatClampNeg)
  refine lv_aload_n hx hb dL_law_394 rfl (lv_at hl 1 rfl) ?_
  refine lk_arg (k := 1) (v := 1) hx hb hX hbl hbA hS hl (i0 := 0) (i4 := 4) rfl rfl (by decide) h1 dL_law_395 dL_law_396 dL_law_398 dL_law_399 dL_law_400 ?_
  refine lc_i (As := [.int (xs (x4 + 1).toNatClampNeg)]) (rest := []) C1 J (kX4_part hEE e1) (cwV 1 hts gL_law_X4_part rfl rfl rfl (by decide +kernel) ⟨Nat.le_of_ble_eq_true rfl, Nat.le_of_ble_eq_true rfl⟩) rfl hS hl.1 rfl (Nat.le_of_ble_eq_true rfl) hf0 dL_law_401 (fun H locs J hS => ?_)
  refine lv_aload_n hx hb dL_law_404 rfl (lv_at hl 2 rfl) ?_
  refine lk_arg (k := 1) (v := 1) hx hb hX hbl hbA hS hl (i0 := 0) (i4 := 4) rfl rfl (by decide) h1 dL_law_405 dL_law_406 dL_law_408 dL_law_409 dL_law_410 ?_
  refine lm_i (As := [.int (xs (x4 + 1).toNatClampNeg)]) (rest := [.int r]) C2 J (kX5_part ke_0ok e2) (cwV 1 hts gL_law_X5_part rfl rfl rfl (by decide +kernel) ⟨Nat.le_of_ble_eq_true rfl, Nat.le_of_ble_eq_true rfl⟩) rfl hS hl.1 rfl (Nat.le_of_ble_eq_true rfl) hf0 dL_law_411 (fun H locs J hS => ?_)
  refine lv_icmp_eq (tgt := 1077) hx hb dL_law_414 (by decide) (fun c_1 => ?_) (fun c_1 => ?_)
  · exact W.widen (k := cells + 1) (n := slots + 6) (by omega) (by omega) (kk S1' S2' σ' f H locs ls J1 J hS hl)
  · exact absurd rfl c_1
set_option maxHeartbeats 4000000 in
set_option maxRecDepth 100000 in
/-- index -/
theorem lw_c8 (G : lw_H p l s m b L xs meth c D cy kn kv A) (h1 : vp_in (x4 + 1) L) (h2 : vp_in (x4 + 2) L) (h3 : vp_in (x4 + 3) L) (h4 : vp_in (x4 + 4) L) (h5 : vp_in (x4 + 5) L) (J0 : JJ S1 S2 σ) (J : lk_I D cy ad am ao A S1 S2 f H) (hS : va_S A s.heap H locs) (hl : lv_has ls 8 (lw_ls b ad am ao x4)) (hf : cells + 1 ≤ room_1.cells ∧ slots + 6 ≤ room_1.slots) (kk : lw_K p l e s m b below meth c D cy ad am ao A x4 cells slots Q) : W p l e room_1 s m #[Value.ref b] below meth c H locs cells slots Q (F0 m 419 ls []) := by
  obtain ⟨⟨⟨hx, hb, hml, hown, hts⟩, hr, hlk, hK, hA, hE, hEE⟩, C2, hX, hbl, hbA, hst⟩ := id G
  have C1 := G.1
  obtain ⟨r, S1', S2', σ', e1, e2, e3, J1⟩ := J_index J0 (xs (x4 + 1).toNatClampNeg) (if xs (x4 + 2).toNatClampNeg = 0 then 0 else 1)
  refine lv_aload_n hx hb dL_law_419 rfl (lv_at hl 1 rfl) ?_
  refine lk_arg (k := 1) (v := 1) hx hb hX hbl hbA hS hl (i0 := 0) (i4 := 4) rfl rfl (by decide) h1 dL_law_420 dL_law_421 dL_law_423 dL_law_424 dL_law_425 ?_
  refine lk_arg (k := 2) (v := 2) hx hb hX hbl hbA hS hl (i0 := 0) (i4 := 4) rfl rfl (by decide) h2 dL_law_426 dL_law_427 dL_law_429 dL_law_430 dL_law_431 ?_
  refine lk_bool hx hb dL_law_432 dL_law_435 dL_law_436 dL_law_439 ?_
  refine lv_aload_n hx hb dL_law_440 rfl (lv_at hl 3 rfl) ?_
  refine lk_h (av := [.ref (ad 17), .int (xs (x4 + 1).toNatClampNeg), .int (if xs (x4 + 2).toNatClampNeg = 0 then 0 else 1), .ref ao]) (rest := []) C1 J (kL_index hst e1) (vx_cwSW 4 hts gL_law_L_index rfl rfl rfl (by decide +kernel) ⟨Nat.le_of_ble_eq_true rfl, Nat.le_of_ble_eq_true rfl⟩) rfl hS hl.1 rfl (Nat.le_of_ble_eq_true rfl) hf dL_law_441 (fun H locs J hS => ?_)
  refine lv_istore (lv' := (5, .int (lh_ki r)) :: lw_ls b ad am ao x4) hx hb dL_law_444 hl (by decide) rfl (fun ls hl => ?_)
  refine lv_aload_n hx hb dL_law_446 rfl (lv_at hl 3 rfl) ?_
  refine lk_arg (k := 1) (v := 1) hx hb hX hbl hbA hS hl (i0 := 1) (i4 := 5) rfl rfl (by decide) h1 dL_law_447 dL_law_448 dL_law_450 dL_law_451 dL_law_452 ?_
  refine lk_arg (k := 2) (v := 2) hx hb hX hbl hbA hS hl (i0 := 1) (i4 := 5) rfl rfl (by decide) h2 dL_law_453 dL_law_454 dL_law_456 dL_law_457 dL_law_458 ?_
  refine lk_bool hx hb dL_law_459 dL_law_462 dL_law_463 dL_law_466 ?_
  refine lm_l (As := [.int (xs (x4 + 1).toNatClampNeg), .int (if xs (x4 + 2).toNatClampNeg = 0 then 0 else 1)]) (rest := []) C2 J (kX5_index ke_0ok e2) (cwV 2 hts gL_law_X5_index rfl rfl rfl (by decide +kernel) ⟨Nat.le_of_ble_eq_true rfl, Nat.le_of_ble_eq_true rfl⟩) rfl hS hl.1 rfl (Nat.le_of_ble_eq_true rfl) hf dL_law_467 (fun H locs J hS => ?_)
  refine lv_lstore (lv' := (6, .long (r.getD 0)) :: (5, .int (lh_ki r)) :: lw_ls b ad am ao x4) hx hb dL_law_470 hl (by decide) rfl (fun ls hl => ?_)
  refine lv_aload_n hx hb dL_law_472 rfl (lv_at hl 4 rfl) ?_
  refine lm_i (As := []) (rest := []) C2 J (kX5_thrown ke_0ok rfl) (cwV 0 hts gL_law_X5_thrown rfl rfl rfl (by decide +kernel) ⟨Nat.le_of_ble_eq_true rfl, Nat.le_of_ble_eq_true rfl⟩) rfl hS hl.1 rfl (Nat.le_of_ble_eq_true rfl) hf dL_law_473 (fun H locs J hS => ?_)
  refine lv_iload hx hb dL_law_476 (lv_at hl 1 rfl) ?_
  refine lv_icmp_eq (tgt := 483) hx hb dL_law_478 (by decide) (fun c_1 => ?_) (fun c_1 => absurd e3 c_1)
  refine lv_iload hx hb dL_law_483 (lv_at hl 1 rfl) ?_
  have hend : ∀ {H : Heap} {locs : List Loc}, lk_I D cy ad am ao A S1' S2' (lh_fl r f) H → va_S A s.heap H locs → W p l e room_1 s m #[Value.ref b] below meth c H locs (cells + 1) (slots + 6) Q (F0 m 499 ls []) := fun J hS => lv_goto (tgt := 1077) hx hb dL_law_499 (by decide) (kk S1' S2' σ' _ _ _ ls J1 J hS (lv_sub hl [2, 3, 4, 5, 6] rfl))
  refine lv_if_ne (tgt := 499) hx hb dL_law_485 (by decide) (fun c_2 => hend J hS) (fun c_2 => ?_)
  obtain ⟨v, rfl⟩ : ∃ v, r = some v := by
    cases r with
    | none => exact absurd c_2 (show ¬ (1 : Int32) = 0 by decide)
    | some v => exact ⟨v, rfl⟩
  refine lv_aload_n hx hb dL_law_488 rfl (lv_at hl 5 rfl) ?_
  refine lv_iconst (v := 0) hx hb dL_law_489 (by decide) ?_
  refine va_lald hx hb hK J.2.2.1.1 0 1 rfl rfl vi_01 dL_law_490 ?_
  refine lv_lload hx hb dL_law_491 (lv_at hl 0 rfl) ?_
  refine W.lcmp hx hb dL_law_493 ?_
  exact lv_if_eq (tgt := 499) hx hb dL_law_494 (by decide) (fun c_3 => hend J hS) (fun c_3 => absurd (lg_self lh_v) c_3)
set_option maxHeartbeats 4000000 in
set_option maxRecDepth 100000 in
/-- off -/
theorem lw_c9 (G : lw_H p l s m b L xs meth c D cy kn kv A) (h1 : vp_in (x4 + 1) L) (h2 : vp_in (x4 + 2) L) (h3 : vp_in (x4 + 3) L) (h4 : vp_in (x4 + 4) L) (h5 : vp_in (x4 + 5) L) (J0 : JJ S1 S2 σ) (J : lk_I D cy ad am ao A S1 S2 f H) (hS : va_S A s.heap H locs) (hl : lv_has ls 8 (lw_ls b ad am ao x4)) (hf : cells + 1 ≤ room_1.cells ∧ slots + 6 ≤ room_1.slots) (kk : lw_K p l e s m b below meth c D cy ad am ao A x4 cells slots Q) : W p l e room_1 s m #[Value.ref b] below meth c H locs cells slots Q (F0 m 502 ls []) := by
  obtain ⟨⟨⟨hx, hb, hml, hown, hts⟩, hr, hlk, hK, hA, hE, hEE⟩, C2, hX, hbl, hbA, hst⟩ := id G
  have C1 := G.1
  obtain ⟨r, S1', S2', σ', e1, e2, e3, J1⟩ := J_off J0 (xs (x4 + 1).toNatClampNeg) (if xs (x4 + 2).toNatClampNeg = 0 then 0 else 1)
  refine lv_aload_n hx hb dL_law_502 rfl (lv_at hl 1 rfl) ?_
  refine lk_arg (k := 1) (v := 1) hx hb hX hbl hbA hS hl (i0 := 0) (i4 := 4) rfl rfl (by decide) h1 dL_law_503 dL_law_504 dL_law_506 dL_law_507 dL_law_508 ?_
  refine lk_arg (k := 2) (v := 2) hx hb hX hbl hbA hS hl (i0 := 0) (i4 := 4) rfl rfl (by decide) h2 dL_law_509 dL_law_510 dL_law_512 dL_law_513 dL_law_514 ?_
  refine lk_bool hx hb dL_law_515 dL_law_518 dL_law_519 dL_law_522 ?_
  refine lv_aload_n hx hb dL_law_523 rfl (lv_at hl 3 rfl) ?_
  refine lk_h (av := [.ref (ad 17), .int (xs (x4 + 1).toNatClampNeg), .int (if xs (x4 + 2).toNatClampNeg = 0 then 0 else 1), .ref ao]) (rest := []) C1 J (kL_off hst e1) (vx_cwSW 4 hts gL_law_L_off rfl rfl rfl (by decide +kernel) ⟨Nat.le_of_ble_eq_true rfl, Nat.le_of_ble_eq_true rfl⟩) rfl hS hl.1 rfl (Nat.le_of_ble_eq_true rfl) hf dL_law_524 (fun H locs J hS => ?_)
  refine lv_istore (lv' := (5, .int (lh_ki r)) :: lw_ls b ad am ao x4) hx hb dL_law_527 hl (by decide) rfl (fun ls hl => ?_)
  refine lv_aload_n hx hb dL_law_529 rfl (lv_at hl 3 rfl) ?_
  refine lk_arg (k := 1) (v := 1) hx hb hX hbl hbA hS hl (i0 := 1) (i4 := 5) rfl rfl (by decide) h1 dL_law_530 dL_law_531 dL_law_533 dL_law_534 dL_law_535 ?_
  refine lk_arg (k := 2) (v := 2) hx hb hX hbl hbA hS hl (i0 := 1) (i4 := 5) rfl rfl (by decide) h2 dL_law_536 dL_law_537 dL_law_539 dL_law_540 dL_law_541 ?_
  refine lk_bool hx hb dL_law_542 dL_law_545 dL_law_546 dL_law_549 ?_
  refine lm_l (As := [.int (xs (x4 + 1).toNatClampNeg), .int (if xs (x4 + 2).toNatClampNeg = 0 then 0 else 1)]) (rest := []) C2 J (kX5_off ke_0ok e2) (cwV 2 hts gL_law_X5_off rfl rfl rfl (by decide +kernel) ⟨Nat.le_of_ble_eq_true rfl, Nat.le_of_ble_eq_true rfl⟩) rfl hS hl.1 rfl (Nat.le_of_ble_eq_true rfl) hf dL_law_550 (fun H locs J hS => ?_)
  refine lv_lstore (lv' := (6, .long (r.getD 0)) :: (5, .int (lh_ki r)) :: lw_ls b ad am ao x4) hx hb dL_law_553 hl (by decide) rfl (fun ls hl => ?_)
  refine lv_aload_n hx hb dL_law_555 rfl (lv_at hl 4 rfl) ?_
  refine lm_i (As := []) (rest := []) C2 J (kX5_thrown ke_0ok rfl) (cwV 0 hts gL_law_X5_thrown rfl rfl rfl (by decide +kernel) ⟨Nat.le_of_ble_eq_true rfl, Nat.le_of_ble_eq_true rfl⟩) rfl hS hl.1 rfl (Nat.le_of_ble_eq_true rfl) hf dL_law_556 (fun H locs J hS => ?_)
  refine lv_iload hx hb dL_law_559 (lv_at hl 1 rfl) ?_
  refine lv_icmp_eq (tgt := 566) hx hb dL_law_561 (by decide) (fun c_1 => ?_) (fun c_1 => absurd e3 c_1)
  refine lv_iload hx hb dL_law_566 (lv_at hl 1 rfl) ?_
  have hend : ∀ {H : Heap} {locs : List Loc}, lk_I D cy ad am ao A S1' S2' (lh_fl r f) H → va_S A s.heap H locs → W p l e room_1 s m #[Value.ref b] below meth c H locs (cells + 1) (slots + 6) Q (F0 m 582 ls []) := fun J hS => lv_goto (tgt := 1077) hx hb dL_law_582 (by decide) (kk S1' S2' σ' _ _ _ ls J1 J hS (lv_sub hl [2, 3, 4, 5, 6] rfl))
  refine lv_if_ne (tgt := 582) hx hb dL_law_568 (by decide) (fun c_2 => hend J hS) (fun c_2 => ?_)
  obtain ⟨v, rfl⟩ : ∃ v, r = some v := by
    cases r with
    | none => exact absurd c_2 (show ¬ (1 : Int32) = 0 by decide)
    | some v => exact ⟨v, rfl⟩
  refine lv_aload_n hx hb dL_law_571 rfl (lv_at hl 5 rfl) ?_
  refine lv_iconst (v := 0) hx hb dL_law_572 (by decide) ?_
  refine va_lald hx hb hK J.2.2.1.1 0 1 rfl rfl vi_01 dL_law_573 ?_
  refine lv_lload hx hb dL_law_574 (lv_at hl 0 rfl) ?_
  refine W.lcmp hx hb dL_law_576 ?_
  exact lv_if_eq (tgt := 582) hx hb dL_law_577 (by decide) (fun c_3 => hend J hS) (fun c_3 => absurd (lg_self lh_v) c_3)
set_option maxHeartbeats 4000000 in
set_option maxRecDepth 100000 in
/-- error -/
theorem lw_c10 (G : lw_H p l s m b L xs meth c D cy kn kv A) (h1 : vp_in (x4 + 1) L) (h2 : vp_in (x4 + 2) L) (h3 : vp_in (x4 + 3) L) (h4 : vp_in (x4 + 4) L) (h5 : vp_in (x4 + 5) L) (J0 : JJ S1 S2 σ) (J : lk_I D cy ad am ao A S1 S2 f H) (hS : va_S A s.heap H locs) (hl : lv_has ls 8 (lw_ls b ad am ao x4)) (hf : cells + 1 ≤ room_1.cells ∧ slots + 6 ≤ room_1.slots) (kk : lw_K p l e s m b below meth c D cy ad am ao A x4 cells slots Q) : W p l e room_1 s m #[Value.ref b] below meth c H locs cells slots Q (F0 m 585 ls []) := by
  obtain ⟨⟨⟨hx, hb, hml, hown, hts⟩, hr, hlk, hK, hA, hE, hEE⟩, C2, hX, hbl, hbA, hst⟩ := id G
  have C1 := G.1
  have hf0 : cells ≤ room_1.cells ∧ slots ≤ room_1.slots := ⟨by omega, by omega⟩
  obtain ⟨r, S1', S2', σ', e1, e2, J1⟩ := J_error J0 (if xs (x4 + 1).toNatClampNeg = 0 then 0 else 1)
  refine lv_aload_n hx hb dL_law_585 rfl (lv_at hl 1 rfl) ?_
  refine lk_arg (k := 1) (v := 1) hx hb hX hbl hbA hS hl (i0 := 0) (i4 := 4) rfl rfl (by decide) h1 dL_law_586 dL_law_587 dL_law_589 dL_law_590 dL_law_591 ?_
  refine lk_bool hx hb dL_law_592 dL_law_595 dL_law_596 dL_law_599 ?_
  refine lc_l (As := [.int (if xs (x4 + 1).toNatClampNeg = 0 then 0 else 1)]) (rest := []) C1 J (kX4_error hEE e1) (cwV 1 hts gL_law_X4_error rfl rfl rfl (by decide +kernel) ⟨Nat.le_of_ble_eq_true rfl, Nat.le_of_ble_eq_true rfl⟩) rfl hS hl.1 rfl (Nat.le_of_ble_eq_true rfl) hf0 dL_law_600 (fun H locs J hS => ?_)
  refine lv_aload_n hx hb dL_law_603 rfl (lv_at hl 2 rfl) ?_
  refine lk_arg (k := 1) (v := 1) hx hb hX hbl hbA hS hl (i0 := 0) (i4 := 4) rfl rfl (by decide) h1 dL_law_604 dL_law_605 dL_law_607 dL_law_608 dL_law_609 ?_
  refine lk_bool hx hb dL_law_610 dL_law_613 dL_law_614 dL_law_617 ?_
  refine lm_l (As := [.int (if xs (x4 + 1).toNatClampNeg = 0 then 0 else 1)]) (rest := [.long r]) C2 J (kX5_error ke_0ok e2) (cwV 1 hts gL_law_X5_error rfl rfl rfl (by decide +kernel) ⟨Nat.le_of_ble_eq_true rfl, Nat.le_of_ble_eq_true rfl⟩) rfl hS hl.1 rfl (Nat.le_of_ble_eq_true rfl) hf0 dL_law_618 (fun H locs J hS => ?_)
  refine W.lcmp hx hb dL_law_621 ?_
  refine lv_if_eq (tgt := 1077) hx hb dL_law_622 (by decide) (fun c_1 => ?_) (fun c_1 => ?_)
  · exact W.widen (k := cells + 1) (n := slots + 6) (by omega) (by omega) (kk S1' S2' σ' f H locs ls J1 J hS hl)
  · exact absurd (lg_self rfl) c_1
set_option maxHeartbeats 4000000 in
set_option maxRecDepth 100000 in
/-- worst -/
theorem lw_c11 (G : lw_H p l s m b L xs meth c D cy kn kv A) (h1 : vp_in (x4 + 1) L) (h2 : vp_in (x4 + 2) L) (h3 : vp_in (x4 + 3) L) (h4 : vp_in (x4 + 4) L) (h5 : vp_in (x4 + 5) L) (J0 : JJ S1 S2 σ) (J : lk_I D cy ad am ao A S1 S2 f H) (hS : va_S A s.heap H locs) (hl : lv_has ls 8 (lw_ls b ad am ao x4)) (hf : cells + 1 ≤ room_1.cells ∧ slots + 6 ≤ room_1.slots) (kk : lw_K p l e s m b below meth c D cy ad am ao A x4 cells slots Q) : W p l e room_1 s m #[Value.ref b] below meth c H locs cells slots Q (F0 m 627 ls []) := by
  obtain ⟨⟨⟨hx, hb, hml, hown, hts⟩, hr, hlk, hK, hA, hE, hEE⟩, C2, hX, hbl, hbA, hst⟩ := id G
  have C1 := G.1
  have hf0 : cells ≤ room_1.cells ∧ slots ≤ room_1.slots := ⟨by omega, by omega⟩
  obtain ⟨r, S1', S2', σ', e1, e2, J1⟩ := J_worst J0 
  refine lv_aload_n hx hb dL_law_627 rfl (lv_at hl 1 rfl) ?_
  refine lc_i (As := []) (rest := []) C1 J (kX4_worst hEE e1) (cwV 0 hts gL_law_X4_worst rfl rfl rfl (by decide +kernel) ⟨Nat.le_of_ble_eq_true rfl, Nat.le_of_ble_eq_true rfl⟩) rfl hS hl.1 rfl (Nat.le_of_ble_eq_true rfl) hf0 dL_law_628 (fun H locs J hS => ?_)
  refine lv_aload_n hx hb dL_law_631 rfl (lv_at hl 2 rfl) ?_
  refine lm_i (As := []) (rest := [.int r]) C2 J (kX5_worst ke_0ok e2) (cwV 0 hts gL_law_X5_worst rfl rfl rfl (by decide +kernel) ⟨Nat.le_of_ble_eq_true rfl, Nat.le_of_ble_eq_true rfl⟩) rfl hS hl.1 rfl (Nat.le_of_ble_eq_true rfl) hf0 dL_law_632 (fun H locs J hS => ?_)
  refine lv_icmp_eq (tgt := 1077) hx hb dL_law_635 (by decide) (fun c_1 => ?_) (fun c_1 => ?_)
  · exact W.widen (k := cells + 1) (n := slots + 6) (by omega) (by omega) (kk S1' S2' σ' f H locs ls J1 J hS hl)
  · exact absurd rfl c_1
set_option maxHeartbeats 4000000 in
set_option maxRecDepth 100000 in
/-- without -/
theorem lw_c12 (G : lw_H p l s m b L xs meth c D cy kn kv A) (h1 : vp_in (x4 + 1) L) (h2 : vp_in (x4 + 2) L) (h3 : vp_in (x4 + 3) L) (h4 : vp_in (x4 + 4) L) (h5 : vp_in (x4 + 5) L) (J0 : JJ S1 S2 σ) (J : lk_I D cy ad am ao A S1 S2 f H) (hS : va_S A s.heap H locs) (hl : lv_has ls 8 (lw_ls b ad am ao x4)) (hf : cells + 1 ≤ room_1.cells ∧ slots + 6 ≤ room_1.slots) (kk : lw_K p l e s m b below meth c D cy ad am ao A x4 cells slots Q) : W p l e room_1 s m #[Value.ref b] below meth c H locs cells slots Q (F0 m 640 ls []) := by
  obtain ⟨⟨⟨hx, hb, hml, hown, hts⟩, hr, hlk, hK, hA, hE, hEE⟩, C2, hX, hbl, hbA, hst⟩ := id G
  have C1 := G.1
  obtain ⟨r, S1', S2', σ', e1, e2, e3, J1⟩ := J_without J0 (xs (x4 + 1).toNatClampNeg) (xs (x4 + 2).toNatClampNeg) (if xs (x4 + 3).toNatClampNeg = 0 then 0 else 1)
  refine lv_aload_n hx hb dL_law_640 rfl (lv_at hl 1 rfl) ?_
  refine lk_arg (k := 1) (v := 1) hx hb hX hbl hbA hS hl (i0 := 0) (i4 := 4) rfl rfl (by decide) h1 dL_law_641 dL_law_642 dL_law_644 dL_law_645 dL_law_646 ?_
  refine lk_arg (k := 2) (v := 2) hx hb hX hbl hbA hS hl (i0 := 0) (i4 := 4) rfl rfl (by decide) h2 dL_law_647 dL_law_648 dL_law_650 dL_law_651 dL_law_652 ?_
  refine lk_arg (k := 3) (v := 3) hx hb hX hbl hbA hS hl (i0 := 0) (i4 := 4) rfl rfl (by decide) h3 dL_law_653 dL_law_654 dL_law_656 dL_law_657 dL_law_658 ?_
  refine lk_bool hx hb dL_law_659 dL_law_662 dL_law_663 dL_law_666 ?_
  refine lv_aload_n hx hb dL_law_667 rfl (lv_at hl 3 rfl) ?_
  refine lk_h (av := [.ref (ad 17), .int (xs (x4 + 1).toNatClampNeg), .int (xs (x4 + 2).toNatClampNeg), .int (if xs (x4 + 3).toNatClampNeg = 0 then 0 else 1), .ref ao]) (rest := []) C1 J (kL_without hst e1) (vx_cwSW 5 hts gL_law_L_without rfl rfl rfl (by decide +kernel) ⟨Nat.le_of_ble_eq_true rfl, Nat.le_of_ble_eq_true rfl⟩) rfl hS hl.1 rfl (Nat.le_of_ble_eq_true rfl) hf dL_law_668 (fun H locs J hS => ?_)
  refine lv_istore (lv' := (5, .int (lh_ki r)) :: lw_ls b ad am ao x4) hx hb dL_law_671 hl (by decide) rfl (fun ls hl => ?_)
  refine lv_aload_n hx hb dL_law_673 rfl (lv_at hl 3 rfl) ?_
  refine lk_arg (k := 1) (v := 1) hx hb hX hbl hbA hS hl (i0 := 1) (i4 := 5) rfl rfl (by decide) h1 dL_law_674 dL_law_675 dL_law_677 dL_law_678 dL_law_679 ?_
  refine lk_arg (k := 2) (v := 2) hx hb hX hbl hbA hS hl (i0 := 1) (i4 := 5) rfl rfl (by decide) h2 dL_law_680 dL_law_681 dL_law_683 dL_law_684 dL_law_685 ?_
  refine lk_arg (k := 3) (v := 3) hx hb hX hbl hbA hS hl (i0 := 1) (i4 := 5) rfl rfl (by decide) h3 dL_law_686 dL_law_687 dL_law_689 dL_law_690 dL_law_691 ?_
  refine lk_bool hx hb dL_law_692 dL_law_695 dL_law_696 dL_law_699 ?_
  refine lm_l (As := [.int (xs (x4 + 1).toNatClampNeg), .int (xs (x4 + 2).toNatClampNeg), .int (if xs (x4 + 3).toNatClampNeg = 0 then 0 else 1)]) (rest := []) C2 J (kX5_without ke_0ok e2) (cwV 3 hts gL_law_X5_without rfl rfl rfl (by decide +kernel) ⟨Nat.le_of_ble_eq_true rfl, Nat.le_of_ble_eq_true rfl⟩) rfl hS hl.1 rfl (Nat.le_of_ble_eq_true rfl) hf dL_law_700 (fun H locs J hS => ?_)
  refine lv_lstore (lv' := (6, .long (r.getD 0)) :: (5, .int (lh_ki r)) :: lw_ls b ad am ao x4) hx hb dL_law_703 hl (by decide) rfl (fun ls hl => ?_)
  refine lv_aload_n hx hb dL_law_705 rfl (lv_at hl 4 rfl) ?_
  refine lm_i (As := []) (rest := []) C2 J (kX5_thrown ke_0ok rfl) (cwV 0 hts gL_law_X5_thrown rfl rfl rfl (by decide +kernel) ⟨Nat.le_of_ble_eq_true rfl, Nat.le_of_ble_eq_true rfl⟩) rfl hS hl.1 rfl (Nat.le_of_ble_eq_true rfl) hf dL_law_706 (fun H locs J hS => ?_)
  refine lv_iload hx hb dL_law_709 (lv_at hl 1 rfl) ?_
  refine lv_icmp_eq (tgt := 716) hx hb dL_law_711 (by decide) (fun c_1 => ?_) (fun c_1 => absurd e3 c_1)
  refine lv_iload hx hb dL_law_716 (lv_at hl 1 rfl) ?_
  have hend : ∀ {H : Heap} {locs : List Loc}, lk_I D cy ad am ao A S1' S2' (lh_fl r f) H → va_S A s.heap H locs → W p l e room_1 s m #[Value.ref b] below meth c H locs (cells + 1) (slots + 6) Q (F0 m 732 ls []) := fun J hS => lv_goto (tgt := 1077) hx hb dL_law_732 (by decide) (kk S1' S2' σ' _ _ _ ls J1 J hS (lv_sub hl [2, 3, 4, 5, 6] rfl))
  refine lv_if_ne (tgt := 732) hx hb dL_law_718 (by decide) (fun c_2 => hend J hS) (fun c_2 => ?_)
  obtain ⟨v, rfl⟩ : ∃ v, r = some v := by
    cases r with
    | none => exact absurd c_2 (show ¬ (1 : Int32) = 0 by decide)
    | some v => exact ⟨v, rfl⟩
  refine lv_aload_n hx hb dL_law_721 rfl (lv_at hl 5 rfl) ?_
  refine lv_iconst (v := 0) hx hb dL_law_722 (by decide) ?_
  refine va_lald hx hb hK J.2.2.1.1 0 1 rfl rfl vi_01 dL_law_723 ?_
  refine lv_lload hx hb dL_law_724 (lv_at hl 0 rfl) ?_
  refine W.lcmp hx hb dL_law_726 ?_
  exact lv_if_eq (tgt := 732) hx hb dL_law_727 (by decide) (fun c_3 => hend J hS) (fun c_3 => absurd (lg_self lh_v) c_3)
set_option maxHeartbeats 4000000 in
set_option maxRecDepth 100000 in
/-- revised -/
theorem lw_c13 (G : lw_H p l s m b L xs meth c D cy kn kv A) (h1 : vp_in (x4 + 1) L) (h2 : vp_in (x4 + 2) L) (h3 : vp_in (x4 + 3) L) (h4 : vp_in (x4 + 4) L) (h5 : vp_in (x4 + 5) L) (J0 : JJ S1 S2 σ) (J : lk_I D cy ad am ao A S1 S2 f H) (hS : va_S A s.heap H locs) (hl : lv_has ls 8 (lw_ls b ad am ao x4)) (hf : cells + 1 ≤ room_1.cells ∧ slots + 6 ≤ room_1.slots) (kk : lw_K p l e s m b below meth c D cy ad am ao A x4 cells slots Q) : W p l e room_1 s m #[Value.ref b] below meth c H locs cells slots Q (F0 m 735 ls []) := by
  obtain ⟨⟨⟨hx, hb, hml, hown, hts⟩, hr, hlk, hK, hA, hE, hEE⟩, C2, hX, hbl, hbA, hst⟩ := id G
  have C1 := G.1
  obtain ⟨r, S1', S2', σ', e1, e2, e3, J1⟩ := J_revised J0 (xs (x4 + 1).toNatClampNeg) (xs (x4 + 2).toNatClampNeg) (xs (x4 + 3).toNatClampNeg) (xs (x4 + 4).toNatClampNeg) (if xs (x4 + 5).toNatClampNeg = 0 then 0 else 1)
  refine lv_aload_n hx hb dL_law_735 rfl (lv_at hl 1 rfl) ?_
  refine lk_arg (k := 1) (v := 1) hx hb hX hbl hbA hS hl (i0 := 0) (i4 := 4) rfl rfl (by decide) h1 dL_law_736 dL_law_737 dL_law_739 dL_law_740 dL_law_741 ?_
  refine lk_arg (k := 2) (v := 2) hx hb hX hbl hbA hS hl (i0 := 0) (i4 := 4) rfl rfl (by decide) h2 dL_law_742 dL_law_743 dL_law_745 dL_law_746 dL_law_747 ?_
  refine lk_arg (k := 3) (v := 3) hx hb hX hbl hbA hS hl (i0 := 0) (i4 := 4) rfl rfl (by decide) h3 dL_law_748 dL_law_749 dL_law_751 dL_law_752 dL_law_753 ?_
  refine lk_arg (k := 4) (v := 4) hx hb hX hbl hbA hS hl (i0 := 0) (i4 := 4) rfl rfl (by decide) h4 dL_law_754 dL_law_755 dL_law_757 dL_law_758 dL_law_759 ?_
  refine lk_arg (k := 5) (v := 5) hx hb hX hbl hbA hS hl (i0 := 0) (i4 := 4) rfl rfl (by decide) h5 dL_law_760 dL_law_761 dL_law_763 dL_law_764 dL_law_765 ?_
  refine lk_bool hx hb dL_law_766 dL_law_769 dL_law_770 dL_law_773 ?_
  refine lv_aload_n hx hb dL_law_774 rfl (lv_at hl 3 rfl) ?_
  refine lk_h (av := [.ref (ad 17), .int (xs (x4 + 1).toNatClampNeg), .int (xs (x4 + 2).toNatClampNeg), .int (xs (x4 + 3).toNatClampNeg), .int (xs (x4 + 4).toNatClampNeg), .int (if xs (x4 + 5).toNatClampNeg = 0 then 0 else 1), .ref ao]) (rest := []) C1 J (kL_revised hst e1) (vx_cwSW 7 hts gL_law_L_revised rfl rfl rfl (by decide +kernel) ⟨Nat.le_of_ble_eq_true rfl, Nat.le_of_ble_eq_true rfl⟩) rfl hS hl.1 rfl (Nat.le_of_ble_eq_true rfl) hf dL_law_775 (fun H locs J hS => ?_)
  refine lv_istore (lv' := (5, .int (lh_ki r)) :: lw_ls b ad am ao x4) hx hb dL_law_778 hl (by decide) rfl (fun ls hl => ?_)
  refine lv_aload_n hx hb dL_law_780 rfl (lv_at hl 3 rfl) ?_
  refine lk_arg (k := 1) (v := 1) hx hb hX hbl hbA hS hl (i0 := 1) (i4 := 5) rfl rfl (by decide) h1 dL_law_781 dL_law_782 dL_law_784 dL_law_785 dL_law_786 ?_
  refine lk_arg (k := 2) (v := 2) hx hb hX hbl hbA hS hl (i0 := 1) (i4 := 5) rfl rfl (by decide) h2 dL_law_787 dL_law_788 dL_law_790 dL_law_791 dL_law_792 ?_
  refine lk_arg (k := 3) (v := 3) hx hb hX hbl hbA hS hl (i0 := 1) (i4 := 5) rfl rfl (by decide) h3 dL_law_793 dL_law_794 dL_law_796 dL_law_797 dL_law_798 ?_
  refine lk_arg (k := 4) (v := 4) hx hb hX hbl hbA hS hl (i0 := 1) (i4 := 5) rfl rfl (by decide) h4 dL_law_799 dL_law_800 dL_law_802 dL_law_803 dL_law_804 ?_
  refine lk_arg (k := 5) (v := 5) hx hb hX hbl hbA hS hl (i0 := 1) (i4 := 5) rfl rfl (by decide) h5 dL_law_805 dL_law_806 dL_law_808 dL_law_809 dL_law_810 ?_
  refine lk_bool hx hb dL_law_811 dL_law_814 dL_law_815 dL_law_818 ?_
  refine lm_l (As := [.int (xs (x4 + 1).toNatClampNeg), .int (xs (x4 + 2).toNatClampNeg), .int (xs (x4 + 3).toNatClampNeg), .int (xs (x4 + 4).toNatClampNeg), .int (if xs (x4 + 5).toNatClampNeg = 0 then 0 else 1)]) (rest := []) C2 J (kX5_revised ke_0ok e2) (cwV 5 hts gL_law_X5_revised rfl rfl rfl (by decide +kernel) ⟨Nat.le_of_ble_eq_true rfl, Nat.le_of_ble_eq_true rfl⟩) rfl hS hl.1 rfl (Nat.le_of_ble_eq_true rfl) hf dL_law_819 (fun H locs J hS => ?_)
  refine lv_lstore (lv' := (6, .long (r.getD 0)) :: (5, .int (lh_ki r)) :: lw_ls b ad am ao x4) hx hb dL_law_822 hl (by decide) rfl (fun ls hl => ?_)
  refine lv_aload_n hx hb dL_law_824 rfl (lv_at hl 4 rfl) ?_
  refine lm_i (As := []) (rest := []) C2 J (kX5_thrown ke_0ok rfl) (cwV 0 hts gL_law_X5_thrown rfl rfl rfl (by decide +kernel) ⟨Nat.le_of_ble_eq_true rfl, Nat.le_of_ble_eq_true rfl⟩) rfl hS hl.1 rfl (Nat.le_of_ble_eq_true rfl) hf dL_law_825 (fun H locs J hS => ?_)
  refine lv_iload hx hb dL_law_828 (lv_at hl 1 rfl) ?_
  refine lv_icmp_eq (tgt := 835) hx hb dL_law_830 (by decide) (fun c_1 => ?_) (fun c_1 => absurd e3 c_1)
  refine lv_iload hx hb dL_law_835 (lv_at hl 1 rfl) ?_
  have hend : ∀ {H : Heap} {locs : List Loc}, lk_I D cy ad am ao A S1' S2' (lh_fl r f) H → va_S A s.heap H locs → W p l e room_1 s m #[Value.ref b] below meth c H locs (cells + 1) (slots + 6) Q (F0 m 851 ls []) := fun J hS => lv_goto (tgt := 1077) hx hb dL_law_851 (by decide) (kk S1' S2' σ' _ _ _ ls J1 J hS (lv_sub hl [2, 3, 4, 5, 6] rfl))
  refine lv_if_ne (tgt := 851) hx hb dL_law_837 (by decide) (fun c_2 => hend J hS) (fun c_2 => ?_)
  obtain ⟨v, rfl⟩ : ∃ v, r = some v := by
    cases r with
    | none => exact absurd c_2 (show ¬ (1 : Int32) = 0 by decide)
    | some v => exact ⟨v, rfl⟩
  refine lv_aload_n hx hb dL_law_840 rfl (lv_at hl 5 rfl) ?_
  refine lv_iconst (v := 0) hx hb dL_law_841 (by decide) ?_
  refine va_lald hx hb hK J.2.2.1.1 0 1 rfl rfl vi_01 dL_law_842 ?_
  refine lv_lload hx hb dL_law_843 (lv_at hl 0 rfl) ?_
  refine W.lcmp hx hb dL_law_845 ?_
  exact lv_if_eq (tgt := 851) hx hb dL_law_846 (by decide) (fun c_3 => hend J hS) (fun c_3 => absurd (lg_self lh_v) c_3)
set_option maxHeartbeats 4000000 in
set_option maxRecDepth 100000 in
/-- worth -/
theorem lw_c14 (G : lw_H p l s m b L xs meth c D cy kn kv A) (h1 : vp_in (x4 + 1) L) (h2 : vp_in (x4 + 2) L) (h3 : vp_in (x4 + 3) L) (h4 : vp_in (x4 + 4) L) (h5 : vp_in (x4 + 5) L) (J0 : JJ S1 S2 σ) (J : lk_I D cy ad am ao A S1 S2 f H) (hS : va_S A s.heap H locs) (hl : lv_has ls 8 (lw_ls b ad am ao x4)) (hf : cells + 1 ≤ room_1.cells ∧ slots + 6 ≤ room_1.slots) (kk : lw_K p l e s m b below meth c D cy ad am ao A x4 cells slots Q) : W p l e room_1 s m #[Value.ref b] below meth c H locs cells slots Q (F0 m 854 ls []) := by
  obtain ⟨⟨⟨hx, hb, hml, hown, hts⟩, hr, hlk, hK, hA, hE, hEE⟩, C2, hX, hbl, hbA, hst⟩ := id G
  have C1 := G.1
  have hf0 : cells ≤ room_1.cells ∧ slots ≤ room_1.slots := ⟨by omega, by omega⟩
  obtain ⟨r, S1', S2', σ', e1, e2, J1⟩ := J_worth J0 (xs (x4 + 1).toNatClampNeg) (xs (x4 + 2).toNatClampNeg)
  refine lv_aload_n hx hb dL_law_854 rfl (lv_at hl 1 rfl) ?_
  refine lk_arg (k := 1) (v := 1) hx hb hX hbl hbA hS hl (i0 := 0) (i4 := 4) rfl rfl (by decide) h1 dL_law_855 dL_law_856 dL_law_858 dL_law_859 dL_law_860 ?_
  refine lk_arg (k := 2) (v := 2) hx hb hX hbl hbA hS hl (i0 := 0) (i4 := 4) rfl rfl (by decide) h2 dL_law_861 dL_law_862 dL_law_864 dL_law_865 dL_law_866 ?_
  refine lc_i (As := [.int (xs (x4 + 1).toNatClampNeg), .int (xs (x4 + 2).toNatClampNeg)]) (rest := []) C1 J (kX4_worth hEE e1) (cwV 2 hts gL_law_X4_worth rfl rfl rfl (by decide +kernel) ⟨Nat.le_of_ble_eq_true rfl, Nat.le_of_ble_eq_true rfl⟩) rfl hS hl.1 rfl (Nat.le_of_ble_eq_true rfl) hf0 dL_law_867 (fun H locs J hS => ?_)
  refine lv_aload_n hx hb dL_law_870 rfl (lv_at hl 2 rfl) ?_
  refine lk_arg (k := 1) (v := 1) hx hb hX hbl hbA hS hl (i0 := 0) (i4 := 4) rfl rfl (by decide) h1 dL_law_871 dL_law_872 dL_law_874 dL_law_875 dL_law_876 ?_
  refine lk_arg (k := 2) (v := 2) hx hb hX hbl hbA hS hl (i0 := 0) (i4 := 4) rfl rfl (by decide) h2 dL_law_877 dL_law_878 dL_law_880 dL_law_881 dL_law_882 ?_
  refine lm_i (As := [.int (xs (x4 + 1).toNatClampNeg), .int (xs (x4 + 2).toNatClampNeg)]) (rest := [.int r]) C2 J (kX5_worth ke_0ok e2) (cwV 2 hts gL_law_X5_worth rfl rfl rfl (by decide +kernel) ⟨Nat.le_of_ble_eq_true rfl, Nat.le_of_ble_eq_true rfl⟩) rfl hS hl.1 rfl (Nat.le_of_ble_eq_true rfl) hf0 dL_law_883 (fun H locs J hS => ?_)
  refine lv_icmp_eq (tgt := 1077) hx hb dL_law_886 (by decide) (fun c_1 => ?_) (fun c_1 => ?_)
  · exact W.widen (k := cells + 1) (n := slots + 6) (by omega) (by omega) (kk S1' S2' σ' f H locs ls J1 J hS hl)
  · exact absurd rfl c_1
set_option maxHeartbeats 4000000 in
set_option maxRecDepth 100000 in
/-- home -/
theorem lw_c15 (G : lw_H p l s m b L xs meth c D cy kn kv A) (h1 : vp_in (x4 + 1) L) (h2 : vp_in (x4 + 2) L) (h3 : vp_in (x4 + 3) L) (h4 : vp_in (x4 + 4) L) (h5 : vp_in (x4 + 5) L) (J0 : JJ S1 S2 σ) (J : lk_I D cy ad am ao A S1 S2 f H) (hS : va_S A s.heap H locs) (hl : lv_has ls 8 (lw_ls b ad am ao x4)) (hf : cells + 1 ≤ room_1.cells ∧ slots + 6 ≤ room_1.slots) (kk : lw_K p l e s m b below meth c D cy ad am ao A x4 cells slots Q) : W p l e room_1 s m #[Value.ref b] below meth c H locs cells slots Q (F0 m 891 ls []) := by
  obtain ⟨⟨⟨hx, hb, hml, hown, hts⟩, hr, hlk, hK, hA, hE, hEE⟩, C2, hX, hbl, hbA, hst⟩ := id G
  have C1 := G.1
  have hf0 : cells ≤ room_1.cells ∧ slots ≤ room_1.slots := ⟨by omega, by omega⟩
  obtain ⟨r, S1', S2', σ', e1, e2, J1⟩ := jn_R J0 (J_home J0.1 J0.2.1 )
  refine lv_aload_n hx hb dL_law_891 rfl (lv_at hl 1 rfl) ?_
  refine lc_i (As := []) (rest := []) C1 J (kX4_home hEE e1) (cwV 0 hts gL_law_X4_home rfl rfl rfl (by decide +kernel) ⟨Nat.le_of_ble_eq_true rfl, Nat.le_of_ble_eq_true rfl⟩) rfl hS hl.1 rfl (Nat.le_of_ble_eq_true rfl) hf0 dL_law_892 (fun H locs J hS => ?_)
  refine lv_aload_n hx hb dL_law_895 rfl (lv_at hl 2 rfl) ?_
  refine lm_i (As := []) (rest := [.int r]) C2 J (kX5_home ke_0ok e2) (cwV 0 hts gL_law_X5_home rfl rfl rfl (by decide +kernel) ⟨Nat.le_of_ble_eq_true rfl, Nat.le_of_ble_eq_true rfl⟩) rfl hS hl.1 rfl (Nat.le_of_ble_eq_true rfl) hf0 dL_law_896 (fun H locs J hS => ?_)
  refine lv_icmp_eq (tgt := 1077) hx hb dL_law_899 (by decide) (fun c_1 => ?_) (fun c_1 => ?_)
  · exact W.widen (k := cells + 1) (n := slots + 6) (by omega) (by omega) (kk S1' S2' σ' f H locs ls J1 J hS hl)
  · exact absurd rfl c_1
set_option maxHeartbeats 4000000 in
set_option maxRecDepth 100000 in
/-- sale -/
theorem lw_c16 (G : lw_H p l s m b L xs meth c D cy kn kv A) (h1 : vp_in (x4 + 1) L) (h2 : vp_in (x4 + 2) L) (h3 : vp_in (x4 + 3) L) (h4 : vp_in (x4 + 4) L) (h5 : vp_in (x4 + 5) L) (J0 : JJ S1 S2 σ) (J : lk_I D cy ad am ao A S1 S2 f H) (hS : va_S A s.heap H locs) (hl : lv_has ls 8 (lw_ls b ad am ao x4)) (hf : cells + 1 ≤ room_1.cells ∧ slots + 6 ≤ room_1.slots) (kk : lw_K p l e s m b below meth c D cy ad am ao A x4 cells slots Q) : W p l e room_1 s m #[Value.ref b] below meth c H locs cells slots Q (F0 m 904 ls []) := by
  obtain ⟨⟨⟨hx, hb, hml, hown, hts⟩, hr, hlk, hK, hA, hE, hEE⟩, C2, hX, hbl, hbA, hst⟩ := id G
  have C1 := G.1
  have hf0 : cells ≤ room_1.cells ∧ slots ≤ room_1.slots := ⟨by omega, by omega⟩
  obtain ⟨r, S1', S2', σ', e1, e2, J1⟩ := jn_R J0 (J_sale J0.1 J0.2.1 (xs (x4 + 1).toNatClampNeg) (xs (x4 + 2).toNatClampNeg) (xs (x4 + 3).toNatClampNeg))
  refine lv_aload_n hx hb dL_law_904 rfl (lv_at hl 1 rfl) ?_
  refine lk_arg (k := 1) (v := 1) hx hb hX hbl hbA hS hl (i0 := 0) (i4 := 4) rfl rfl (by decide) h1 dL_law_905 dL_law_906 dL_law_908 dL_law_909 dL_law_910 ?_
  refine lk_arg (k := 2) (v := 2) hx hb hX hbl hbA hS hl (i0 := 0) (i4 := 4) rfl rfl (by decide) h2 dL_law_911 dL_law_912 dL_law_914 dL_law_915 dL_law_916 ?_
  refine lk_arg (k := 3) (v := 3) hx hb hX hbl hbA hS hl (i0 := 0) (i4 := 4) rfl rfl (by decide) h3 dL_law_917 dL_law_918 dL_law_920 dL_law_921 dL_law_922 ?_
  refine lc_i (As := [.int (xs (x4 + 1).toNatClampNeg), .int (xs (x4 + 2).toNatClampNeg), .int (xs (x4 + 3).toNatClampNeg)]) (rest := []) C1 J (kX4_sale hEE e1) (cwV 3 hts gL_law_X4_sale rfl rfl rfl (by decide +kernel) ⟨Nat.le_of_ble_eq_true rfl, Nat.le_of_ble_eq_true rfl⟩) rfl hS hl.1 rfl (Nat.le_of_ble_eq_true rfl) hf0 dL_law_923 (fun H locs J hS => ?_)
  refine lv_aload_n hx hb dL_law_926 rfl (lv_at hl 2 rfl) ?_
  refine lk_arg (k := 1) (v := 1) hx hb hX hbl hbA hS hl (i0 := 0) (i4 := 4) rfl rfl (by decide) h1 dL_law_927 dL_law_928 dL_law_930 dL_law_931 dL_law_932 ?_
  refine lk_arg (k := 2) (v := 2) hx hb hX hbl hbA hS hl (i0 := 0) (i4 := 4) rfl rfl (by decide) h2 dL_law_933 dL_law_934 dL_law_936 dL_law_937 dL_law_938 ?_
  refine lk_arg (k := 3) (v := 3) hx hb hX hbl hbA hS hl (i0 := 0) (i4 := 4) rfl rfl (by decide) h3 dL_law_939 dL_law_940 dL_law_942 dL_law_943 dL_law_944 ?_
  refine lm_i (As := [.int (xs (x4 + 1).toNatClampNeg), .int (xs (x4 + 2).toNatClampNeg), .int (xs (x4 + 3).toNatClampNeg)]) (rest := [.int r]) C2 J (kX5_sale ke_0ok e2) (cwV 3 hts gL_law_X5_sale rfl rfl rfl (by decide +kernel) ⟨Nat.le_of_ble_eq_true rfl, Nat.le_of_ble_eq_true rfl⟩) rfl hS hl.1 rfl (Nat.le_of_ble_eq_true rfl) hf0 dL_law_945 (fun H locs J hS => ?_)
  refine lv_icmp_eq (tgt := 1077) hx hb dL_law_948 (by decide) (fun c_1 => ?_) (fun c_1 => ?_)
  · exact W.widen (k := cells + 1) (n := slots + 6) (by omega) (by omega) (kk S1' S2' σ' f H locs ls J1 J hS hl)
  · exact absurd rfl c_1
set_option maxHeartbeats 4000000 in
set_option maxRecDepth 100000 in
/-- drop -/
theorem lw_c17 (G : lw_H p l s m b L xs meth c D cy kn kv A) (h1 : vp_in (x4 + 1) L) (h2 : vp_in (x4 + 2) L) (h3 : vp_in (x4 + 3) L) (h4 : vp_in (x4 + 4) L) (h5 : vp_in (x4 + 5) L) (J0 : JJ S1 S2 σ) (J : lk_I D cy ad am ao A S1 S2 f H) (hS : va_S A s.heap H locs) (hl : lv_has ls 8 (lw_ls b ad am ao x4)) (hf : cells + 1 ≤ room_1.cells ∧ slots + 6 ≤ room_1.slots) (kk : lw_K p l e s m b below meth c D cy ad am ao A x4 cells slots Q) : W p l e room_1 s m #[Value.ref b] below meth c H locs cells slots Q (F0 m 953 ls []) := by
  obtain ⟨⟨⟨hx, hb, hml, hown, hts⟩, hr, hlk, hK, hA, hE, hEE⟩, C2, hX, hbl, hbA, hst⟩ := id G
  have C1 := G.1
  have hf0 : cells ≤ room_1.cells ∧ slots ≤ room_1.slots := ⟨by omega, by omega⟩
  obtain ⟨r, S1', S2', σ', e1, e2, J1⟩ := jn_R J0 (J_drop J0.1 J0.2.1 (xs (x4 + 1).toNatClampNeg) (xs (x4 + 2).toNatClampNeg))
  refine lv_aload_n hx hb dL_law_953 rfl (lv_at hl 1 rfl) ?_
  refine lk_arg (k := 1) (v := 1) hx hb hX hbl hbA hS hl (i0 := 0) (i4 := 4) rfl rfl (by decide) h1 dL_law_954 dL_law_955 dL_law_957 dL_law_958 dL_law_959 ?_
  refine lk_arg (k := 2) (v := 2) hx hb hX hbl hbA hS hl (i0 := 0) (i4 := 4) rfl rfl (by decide) h2 dL_law_960 dL_law_961 dL_law_963 dL_law_964 dL_law_965 ?_
  refine lc_i (As := [.int (xs (x4 + 1).toNatClampNeg), .int (xs (x4 + 2).toNatClampNeg)]) (rest := []) C1 J (kX4_drop hEE e1) (cwV 2 hts gL_law_X4_drop rfl rfl rfl (by decide +kernel) ⟨Nat.le_of_ble_eq_true rfl, Nat.le_of_ble_eq_true rfl⟩) rfl hS hl.1 rfl (Nat.le_of_ble_eq_true rfl) hf0 dL_law_966 (fun H locs J hS => ?_)
  refine lv_aload_n hx hb dL_law_969 rfl (lv_at hl 2 rfl) ?_
  refine lk_arg (k := 1) (v := 1) hx hb hX hbl hbA hS hl (i0 := 0) (i4 := 4) rfl rfl (by decide) h1 dL_law_970 dL_law_971 dL_law_973 dL_law_974 dL_law_975 ?_
  refine lk_arg (k := 2) (v := 2) hx hb hX hbl hbA hS hl (i0 := 0) (i4 := 4) rfl rfl (by decide) h2 dL_law_976 dL_law_977 dL_law_979 dL_law_980 dL_law_981 ?_
  refine lm_i (As := [.int (xs (x4 + 1).toNatClampNeg), .int (xs (x4 + 2).toNatClampNeg)]) (rest := [.int r]) C2 J (kX5_drop ke_0ok e2) (cwV 2 hts gL_law_X5_drop rfl rfl rfl (by decide +kernel) ⟨Nat.le_of_ble_eq_true rfl, Nat.le_of_ble_eq_true rfl⟩) rfl hS hl.1 rfl (Nat.le_of_ble_eq_true rfl) hf0 dL_law_982 (fun H locs J hS => ?_)
  refine lv_icmp_eq (tgt := 1077) hx hb dL_law_985 (by decide) (fun c_1 => ?_) (fun c_1 => ?_)
  · exact W.widen (k := cells + 1) (n := slots + 6) (by omega) (by omega) (kk S1' S2' σ' f H locs ls J1 J hS hl)
  · exact absurd rfl c_1
set_option maxHeartbeats 4000000 in
set_option maxRecDepth 100000 in
/-- shift -/
theorem lw_c18 (G : lw_H p l s m b L xs meth c D cy kn kv A) (h1 : vp_in (x4 + 1) L) (h2 : vp_in (x4 + 2) L) (h3 : vp_in (x4 + 3) L) (h4 : vp_in (x4 + 4) L) (h5 : vp_in (x4 + 5) L) (J0 : JJ S1 S2 σ) (J : lk_I D cy ad am ao A S1 S2 f H) (hS : va_S A s.heap H locs) (hl : lv_has ls 8 (lw_ls b ad am ao x4)) (hf : cells + 1 ≤ room_1.cells ∧ slots + 6 ≤ room_1.slots) (kk : lw_K p l e s m b below meth c D cy ad am ao A x4 cells slots Q) : W p l e room_1 s m #[Value.ref b] below meth c H locs cells slots Q (F0 m 990 ls []) := by
  obtain ⟨⟨⟨hx, hb, hml, hown, hts⟩, hr, hlk, hK, hA, hE, hEE⟩, C2, hX, hbl, hbA, hst⟩ := id G
  have C1 := G.1
  have hf0 : cells ≤ room_1.cells ∧ slots ≤ room_1.slots := ⟨by omega, by omega⟩
  obtain ⟨r, S1', S2', σ', e1, e2, J1⟩ := jn_R J0 (J_shift J0.1 J0.2.1 (xs (x4 + 1).toNatClampNeg) (xs (x4 + 2).toNatClampNeg))
  refine lv_aload_n hx hb dL_law_990 rfl (lv_at hl 1 rfl) ?_
  refine lk_arg (k := 1) (v := 1) hx hb hX hbl hbA hS hl (i0 := 0) (i4 := 4) rfl rfl (by decide) h1 dL_law_991 dL_law_992 dL_law_994 dL_law_995 dL_law_996 ?_
  refine lk_arg (k := 2) (v := 2) hx hb hX hbl hbA hS hl (i0 := 0) (i4 := 4) rfl rfl (by decide) h2 dL_law_997 dL_law_998 dL_law_1000 dL_law_1001 dL_law_1002 ?_
  refine lc_i (As := [.int (xs (x4 + 1).toNatClampNeg), .int (xs (x4 + 2).toNatClampNeg)]) (rest := []) C1 J (kX4_shift hEE e1) (cwV 2 hts gL_law_X4_shift rfl rfl rfl (by decide +kernel) ⟨Nat.le_of_ble_eq_true rfl, Nat.le_of_ble_eq_true rfl⟩) rfl hS hl.1 rfl (Nat.le_of_ble_eq_true rfl) hf0 dL_law_1003 (fun H locs J hS => ?_)
  refine lv_aload_n hx hb dL_law_1006 rfl (lv_at hl 2 rfl) ?_
  refine lk_arg (k := 1) (v := 1) hx hb hX hbl hbA hS hl (i0 := 0) (i4 := 4) rfl rfl (by decide) h1 dL_law_1007 dL_law_1008 dL_law_1010 dL_law_1011 dL_law_1012 ?_
  refine lk_arg (k := 2) (v := 2) hx hb hX hbl hbA hS hl (i0 := 0) (i4 := 4) rfl rfl (by decide) h2 dL_law_1013 dL_law_1014 dL_law_1016 dL_law_1017 dL_law_1018 ?_
  refine lm_i (As := [.int (xs (x4 + 1).toNatClampNeg), .int (xs (x4 + 2).toNatClampNeg)]) (rest := [.int r]) C2 J (kX5_shift ke_0ok e2) (cwV 2 hts gL_law_X5_shift rfl rfl rfl (by decide +kernel) ⟨Nat.le_of_ble_eq_true rfl, Nat.le_of_ble_eq_true rfl⟩) rfl hS hl.1 rfl (Nat.le_of_ble_eq_true rfl) hf0 dL_law_1019 (fun H locs J hS => ?_)
  refine lv_icmp_eq (tgt := 1077) hx hb dL_law_1022 (by decide) (fun c_1 => ?_) (fun c_1 => ?_)
  · exact W.widen (k := cells + 1) (n := slots + 6) (by omega) (by omega) (kk S1' S2' σ' f H locs ls J1 J hS hl)
  · exact absurd rfl c_1
set_option maxHeartbeats 4000000 in
set_option maxRecDepth 100000 in
/-- weigh -/
theorem lw_c19 (G : lw_H p l s m b L xs meth c D cy kn kv A) (h1 : vp_in (x4 + 1) L) (h2 : vp_in (x4 + 2) L) (h3 : vp_in (x4 + 3) L) (h4 : vp_in (x4 + 4) L) (h5 : vp_in (x4 + 5) L) (J0 : JJ S1 S2 σ) (J : lk_I D cy ad am ao A S1 S2 f H) (hS : va_S A s.heap H locs) (hl : lv_has ls 8 (lw_ls b ad am ao x4)) (hf : cells + 1 ≤ room_1.cells ∧ slots + 6 ≤ room_1.slots) (kk : lw_K p l e s m b below meth c D cy ad am ao A x4 cells slots Q) : W p l e room_1 s m #[Value.ref b] below meth c H locs cells slots Q (F0 m 1027 ls []) := by
  obtain ⟨⟨⟨hx, hb, hml, hown, hts⟩, hr, hlk, hK, hA, hE, hEE⟩, C2, hX, hbl, hbA, hst⟩ := id G
  have C1 := G.1
  have hf0 : cells ≤ room_1.cells ∧ slots ≤ room_1.slots := ⟨by omega, by omega⟩
  obtain ⟨r, S1', S2', σ', e1, e2, J1⟩ := jn_R J0 (J_weigh J0.1 J0.2.1 (xs (x4 + 1).toNatClampNeg) (xs (x4 + 2).toNatClampNeg))
  refine lv_aload_n hx hb dL_law_1027 rfl (lv_at hl 1 rfl) ?_
  refine lk_arg (k := 1) (v := 1) hx hb hX hbl hbA hS hl (i0 := 0) (i4 := 4) rfl rfl (by decide) h1 dL_law_1028 dL_law_1029 dL_law_1031 dL_law_1032 dL_law_1033 ?_
  refine lk_arg (k := 2) (v := 2) hx hb hX hbl hbA hS hl (i0 := 0) (i4 := 4) rfl rfl (by decide) h2 dL_law_1034 dL_law_1035 dL_law_1037 dL_law_1038 dL_law_1039 ?_
  refine lc_i (As := [.int (xs (x4 + 1).toNatClampNeg), .int (xs (x4 + 2).toNatClampNeg)]) (rest := []) C1 J (kX4_weigh hEE e1) (cwV 2 hts gL_law_X4_weigh rfl rfl rfl (by decide +kernel) ⟨Nat.le_of_ble_eq_true rfl, Nat.le_of_ble_eq_true rfl⟩) rfl hS hl.1 rfl (Nat.le_of_ble_eq_true rfl) hf0 dL_law_1040 (fun H locs J hS => ?_)
  refine lv_aload_n hx hb dL_law_1043 rfl (lv_at hl 2 rfl) ?_
  refine lk_arg (k := 1) (v := 1) hx hb hX hbl hbA hS hl (i0 := 0) (i4 := 4) rfl rfl (by decide) h1 dL_law_1044 dL_law_1045 dL_law_1047 dL_law_1048 dL_law_1049 ?_
  refine lk_arg (k := 2) (v := 2) hx hb hX hbl hbA hS hl (i0 := 0) (i4 := 4) rfl rfl (by decide) h2 dL_law_1050 dL_law_1051 dL_law_1053 dL_law_1054 dL_law_1055 ?_
  refine lm_i (As := [.int (xs (x4 + 1).toNatClampNeg), .int (xs (x4 + 2).toNatClampNeg)]) (rest := [.int r]) C2 J (kX5_weigh ke_0ok e2) (cwV 2 hts gL_law_X5_weigh rfl rfl rfl (by decide +kernel) ⟨Nat.le_of_ble_eq_true rfl, Nat.le_of_ble_eq_true rfl⟩) rfl hS hl.1 rfl (Nat.le_of_ble_eq_true rfl) hf0 dL_law_1056 (fun H locs J hS => ?_)
  refine lv_icmp_eq (tgt := 1077) hx hb dL_law_1059 (by decide) (fun c_1 => ?_) (fun c_1 => ?_)
  · exact W.widen (k := cells + 1) (n := slots + 6) (by omega) (by omega) (kk S1' S2' σ' f H locs ls J1 J hS hl)
  · exact absurd rfl c_1
set_option maxHeartbeats 4000000 in
set_option maxRecDepth 100000 in
/-- undo -/
theorem lw_c20 (G : lw_H p l s m b L xs meth c D cy kn kv A) (h1 : vp_in (x4 + 1) L) (h2 : vp_in (x4 + 2) L) (h3 : vp_in (x4 + 3) L) (h4 : vp_in (x4 + 4) L) (h5 : vp_in (x4 + 5) L) (J0 : JJ S1 S2 σ) (J : lk_I D cy ad am ao A S1 S2 f H) (hS : va_S A s.heap H locs) (hl : lv_has ls 8 (lw_ls b ad am ao x4)) (hf : cells + 1 ≤ room_1.cells ∧ slots + 6 ≤ room_1.slots) (kk : lw_K p l e s m b below meth c D cy ad am ao A x4 cells slots Q) : W p l e room_1 s m #[Value.ref b] below meth c H locs cells slots Q (F0 m 1064 ls []) := by
  obtain ⟨⟨⟨hx, hb, hml, hown, hts⟩, hr, hlk, hK, hA, hE, hEE⟩, C2, hX, hbl, hbA, hst⟩ := id G
  have C1 := G.1
  have hf0 : cells ≤ room_1.cells ∧ slots ≤ room_1.slots := ⟨by omega, by omega⟩
  obtain ⟨r, S1', S2', σ', e1, e2, J1⟩ := jn_R J0 (J_undo J0.1 J0.2.1 )
  refine lv_aload_n hx hb dL_law_1064 rfl (lv_at hl 1 rfl) ?_
  refine lc_i (As := []) (rest := []) C1 J (kX4_undo hEE e1) (cwV 0 hts gL_law_X4_undo rfl rfl rfl (by decide +kernel) ⟨Nat.le_of_ble_eq_true rfl, Nat.le_of_ble_eq_true rfl⟩) rfl hS hl.1 rfl (Nat.le_of_ble_eq_true rfl) hf0 dL_law_1065 (fun H locs J hS => ?_)
  refine lv_aload_n hx hb dL_law_1068 rfl (lv_at hl 2 rfl) ?_
  refine lm_i (As := []) (rest := [.int r]) C2 J (kX5_undo ke_0ok e2) (cwV 0 hts gL_law_X5_undo rfl rfl rfl (by decide +kernel) ⟨Nat.le_of_ble_eq_true rfl, Nat.le_of_ble_eq_true rfl⟩) rfl hS hl.1 rfl (Nat.le_of_ble_eq_true rfl) hf0 dL_law_1069 (fun H locs J hS => ?_)
  refine lv_icmp_eq (tgt := 1077) hx hb dL_law_1072 (by decide) (fun c_1 => ?_) (fun c_1 => ?_)
  · exact W.widen (k := cells + 1) (n := slots + 6) (by omega) (by omega) (kk S1' S2' σ' f H locs ls J1 J hS hl)
  · exact absurd rfl c_1
end LWC
