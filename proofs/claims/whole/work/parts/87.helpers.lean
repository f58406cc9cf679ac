/-! The helpers of the law, that catch. -/
def lh_A (cy : Nat → ClassId) (ad : Nat → Nat) (ao : Nat) (S : RSt) (sz : Nat) : Nat → Prop := fun q => va_A (rw_w cy ad S) sz q ∨ q = ao
def lh_P (D : va_G) (cy : Nat → ClassId) (ad : Nat → Nat) (ao : Nat) (kn kv : Nat → Nat) (av : List Value) (S : RSt) (f : Nat → Int64) (sz : Nat) : Array Value → State → Prop := va_Pc av (fun U => U.heap.size = sz ∧ va_P D vwCl (rw_w cy ad S) U.heap ∧ va_P D vwCl (ow_w cy ao f) U.heap ∧ va_K D vwCl (rw_t cy) U ∧ va_D (fun _ => True) (rw_w cy ad S) ∧ (∀ i, i < 156 → ad i ≠ ao) ∧ ke_R kn kv (lh_A cy ad ao S sz) U U.heap)
def lh_B (D : va_G) (cy : Nat → ClassId) (ad : Nat → Nat) (ao : Nat) (u : RSt × (Nat → Int64)) (t : State) : Prop := va_P D vwCl (rw_w cy ad u.1) t.heap ∧ va_P D vwCl (ow_w cy ao u.2) t.heap
theorem lh_blind {D : va_G} {cy : Nat → ClassId} {ad : Nat → Nat} {ao : Nat} {kn kv : Nat → Nat} {av : List Value} {S : RSt} {f : Nat → Int64} {sz : Nat} : FrameBlind (lh_P D cy ad ao kn kv av S f sz) := by
  intro a U g mk q
  obtain ⟨q0, q1, qP, qO, qK, qD, qd, qE⟩ := q
  exact ⟨q0, q1, qP, qO, va_K.moved (u := U) (U := U.calling g mk a) (Vm.Alike.refl U.vm) qK, qD, qd, (ke_Rok kn kv).1 _ U _ _ rfl qE⟩
def lh_ki {α : Type} (r : Option α) : Int32 := if r.isNone then 1 else 0
def lh_fi (r : Option Int32) (f : Nat → Int64) : Nat → Int64 := match r with
  | none => f
  | some v => vp_updL f 0 v.toInt64
def lh_fl (r : Option Int64) (f : Nat → Int64) : Nat → Int64 := match r with
  | none => f
  | some v => vp_updL f 0 v
theorem lh_ki0 {α : Type} {r : Option α} (h : r = none) : lh_ki r = 1 := by rw [h]; rfl
theorem lh_ki1 {α : Type} {r : Option α} {v : α} (h : r = some v) : lh_ki r = 0 := by rw [h]; rfl
def lh_M (l : Launch) (D : va_G) (cy : Nat → ClassId) (ad : Nat → Nat) (ao : Nat) (kn kv : Nat → Nat) (y : MethodName) (ws : List Cond) (rm : Room) (av : List Value) (S : RSt) (f : Nat → Int64) (k : Int32) (S' : RSt) (f' : Nat → Int64) : Prop :=
  ∀ sz : Nat, Met l y ws rm (lh_P D cy ad ao kn kv av S f sz) (va_Qi (fun (r' : Int32) (u : RSt × (Nat → Int64)) => r' = k ∧ u = (S', f')) (lh_B D cy ad ao) (lh_A cy ad ao S sz)) 1 6 (lh_A cy ad ao S sz)
theorem wnL_pair : Cond.classLink RL 13 nse_n ∈ wsL_pair := by decide +kernel
abbrev rmL_pair : Room := { frames := 7, cells := 1, slots := 6, locals := 200 }
set_option maxHeartbeats 4000000 in
set_option maxRecDepth 100000 in
theorem kL_pair {l : Launch} {D : va_G} {cy : Nat → ClassId} {ad : Nat → Nat} {ao : Nat} {kn kv : Nat → Nat} (hst : l.stackTraces = false) {x1 : Int32} {x2 : Int32} {S : RSt} {f : Nat → Int64} {r : Option Int32} {S' : RSt} (h : fX4_pair x1 x2 S = some (r, S')) : lh_M l D cy ad ao kn kv yL_pair wsL_pair rmL_pair [.ref (ad 17), .int x1, .int x2, .ref ao] S f (lh_ki r) S' (lh_fi r f) := by
  intro sz
  refine va_MetW (cc := cL_pair) (maxL := 5) (ret := some .int) (hh := [(0, 10, 13, 13)]) (by decide) rfl ?_
  intro p e s m args below meth c s₁ B hml hv
  obtain ⟨rfl, hsz, hP, hO, hK, hD0, hdj, hE⟩ := hv
  have hts := atoms_spec (ws := wsL_pair) B.pre
  have hown : s.vm.findClass RL = some m.cls := findClass_of_methodNamed B.named
  have htab := vx_table (x := yX4_pair) B (hts _ List.mem_cons_self)
  subst hsz
  have hA : ∀ q : Nat, s.heap.size ≤ q → lh_A cy ad ao S s.heap.size q := fun q h => Or.inl (Or.inr h)
  have hD : va_D (lh_A cy ad ao S s.heap.size) (rw_w cy ad S) := ⟨hD0.1, fun k q hq => Or.inl (va_A.in hq)⟩
  have C : km_C p s m _ meth c cL_pair 5 RL wsL_pair (some .int) D (rw_t cy) (ke_R kn kv) (lh_A cy ad ao S s.heap.size) := ⟨⟨B.exec, B.bytes, hml, hown, hts⟩, B.returns, B.notSynchronized, hK, hA, hE, ke_Rok kn kv⟩
  have hS : va_S (lh_A cy ad ao S s.heap.size) s.heap s.heap [] := va_S.rf
  obtain ⟨⟨hx, hb, -, -, -⟩, hr, hlk, -, -, -, hEE⟩ := id C
  have hl := lv_entry [.ref (ad 17), .int x1, .int x2, .ref ao] (n := 5) (Nat.le_of_ble_eq_true rfl)
  rw [lg_entry_eq]
  generalize (lg_sl [.ref (ad 17), .int x1, .int x2, .ref ao] ++ List.replicate (5 - (lg_sl [.ref (ad 17), .int x1, .int x2, .ref ao]).length) Slot.unset).toArray = ls at hl ⊢
  have hl : lv_has ls 5 [(0, .ref (ad 17)), (1, .int x1), (2, .int x2), (3, .ref ao)] := hl
  have hkeep : ∀ {H1 : Heap}, (∀ q : Nat, q < s.heap.size → ¬ va_A (rw_w cy ad S) s.heap.size q → H1[q]? = s.heap[q]?) → va_P D vwCl (ow_w cy ao f) H1 := fun hk => lk_kept hO (fun i j x y hx hy => by
    obtain ⟨h1, h2⟩ := rw_k hx
    obtain ⟨h3, h4⟩ := ow_k hy
    rw [h2, h4]
    exact hdj i h1) hk
  refine lv_aload_n hx hb dL_pair_0 rfl (lv_at hl 3 rfl) ?_
  refine lv_iconst (v := 0) hx hb dL_pair_1 (by decide) ?_
  refine lv_aload_n hx hb dL_pair_2 rfl (lv_at hl 0 rfl) ?_
  refine lv_iload_n hx hb dL_pair_3 rfl (lv_at hl 1 rfl) ?_
  refine lv_iload_n hx hb dL_pair_4 rfl (lv_at hl 2 rfl) ?_
  refine lk_xi (As := [.int x1, .int x2]) (rest := [.int 0, .ref ao]) C (kX4_pair hEE hst h) (cwV 2 hts gL_pair_X4_pair rfl rfl rfl (by decide +kernel) ⟨Nat.le_of_ble_eq_true rfl, Nat.le_of_ble_eq_true rfl⟩) rw_Main rfl rfl rfl hP hD hS hl.1 rfl (Nat.le_of_ble_eq_true rfl) ⟨Nat.le_of_ble_eq_true rfl, Nat.le_of_ble_eq_true rfl⟩ dL_pair_5 (fun hr0 ce q9 H1 locs1 hP1 hD1 hS1 hk1 hc1 hv1 hf1 => ?_) (fun r' hr1 H1 locs1 hP1 hD1 hS1 hk1 => ?_)
  · refine vx_catch (own := RL) (name := nse_n) (E := nse_n) hown [] ⟨0, 10, 13, 13⟩ [] htab (fun z hz => by cases hz) (by decide) (by decide) (hts _ wnL_pair) (va_Nw.use rfl hE.2.2.2.2.2.2.2.1) hc1 hv1 hf1 ?_
    refine lv_astore (lv' := (4, .ref q9) :: [(0, .ref (ad 17)), (1, .int x1), (2, .int x2), (3, .ref ao)]) hx hb dL_pair_13 hl (by decide) rfl (fun ls hl => ?_)
    refine lv_iconst (v := 1) hx hb dL_pair_15 (by decide) ?_
    subst hr0
    exact W.iret (v := 1) hx hb hr (fun t ht hW => ⟨⟨1, (S', f), rfl, ⟨rfl, rfl⟩, by rw [ht]; exact hP1, by rw [ht]; exact hkeep hk1⟩, hS1.F ht⟩) hS1.2.2 dL_pair_16 hlk
  · refine lv_i2l (v := r'.toInt64) hx hb dL_pair_8 rfl ?_
    refine lk_last (x := r'.toInt64) hx hb hK hP1 hD1 (hkeep hk1) (Or.inr rfl) (fun k x hx9 => by obtain ⟨h1, h2⟩ := rw_k hx9; rw [h2]; exact hdj k h1) hS1 dL_pair_9 (fun H2 locs2 hP2 hO2 hS2 => ?_)
    refine lv_goto (tgt := 17) hx hb dL_pair_10 (by decide) ?_
    refine lv_iconst (v := 0) hx hb dL_pair_17 (by decide) ?_
    subst hr1
    exact W.iret (v := 0) hx hb hr (fun t ht hW => ⟨⟨0, (S', vp_updL f 0 (r'.toInt64)), rfl, ⟨rfl, rfl⟩, by rw [ht]; exact hP2, by rw [ht]; exact hO2⟩, hS2.F ht⟩) hS2.2.2 dL_pair_18 hlk
theorem wnL_index : Cond.classLink RL 13 nse_n ∈ wsL_index := by decide +kernel
abbrev rmL_index : Room := { frames := 7, cells := 1, slots := 6, locals := 200 }
set_option maxHeartbeats 4000000 in
set_option maxRecDepth 100000 in
theorem kL_index {l : Launch} {D : va_G} {cy : Nat → ClassId} {ad : Nat → Nat} {ao : Nat} {kn kv : Nat → Nat} (hst : l.stackTraces = false) {x1 : Int32} {x2 : Int32} {S : RSt} {f : Nat → Int64} {r : Option Int64} {S' : RSt} (h : fX4_index x1 x2 S = some (r, S')) : lh_M l D cy ad ao kn kv yL_index wsL_index rmL_index [.ref (ad 17), .int x1, .int x2, .ref ao] S f (lh_ki r) S' (lh_fl r f) := by
  intro sz
  refine va_MetW (cc := cL_index) (maxL := 5) (ret := some .int) (hh := [(0, 9, 12, 13)]) (by decide) rfl ?_
  intro p e s m args below meth c s₁ B hml hv
  obtain ⟨rfl, hsz, hP, hO, hK, hD0, hdj, hE⟩ := hv
  have hts := atoms_spec (ws := wsL_index) B.pre
  have hown : s.vm.findClass RL = some m.cls := findClass_of_methodNamed B.named
  have htab := vx_table (x := yX4_pair) B (hts _ List.mem_cons_self)
  subst hsz
  have hA : ∀ q : Nat, s.heap.size ≤ q → lh_A cy ad ao S s.heap.size q := fun q h => Or.inl (Or.inr h)
  have hD : va_D (lh_A cy ad ao S s.heap.size) (rw_w cy ad S) := ⟨hD0.1, fun k q hq => Or.inl (va_A.in hq)⟩
  have C : km_C p s m _ meth c cL_index 5 RL wsL_index (some .int) D (rw_t cy) (ke_R kn kv) (lh_A cy ad ao S s.heap.size) := ⟨⟨B.exec, B.bytes, hml, hown, hts⟩, B.returns, B.notSynchronized, hK, hA, hE, ke_Rok kn kv⟩
  have hS : va_S (lh_A cy ad ao S s.heap.size) s.heap s.heap [] := va_S.rf
  obtain ⟨⟨hx, hb, -, -, -⟩, hr, hlk, -, -, -, hEE⟩ := id C
  have hl := lv_entry [.ref (ad 17), .int x1, .int x2, .ref ao] (n := 5) (Nat.le_of_ble_eq_true rfl)
  rw [lg_entry_eq]
  generalize (lg_sl [.ref (ad 17), .int x1, .int x2, .ref ao] ++ List.replicate (5 - (lg_sl [.ref (ad 17), .int x1, .int x2, .ref ao]).length) Slot.unset).toArray = ls at hl ⊢
  have hl : lv_has ls 5 [(0, .ref (ad 17)), (1, .int x1), (2, .int x2), (3, .ref ao)] := hl
  have hkeep : ∀ {H1 : Heap}, (∀ q : Nat, q < s.heap.size → ¬ va_A (rw_w cy ad S) s.heap.size q → H1[q]? = s.heap[q]?) → va_P D vwCl (ow_w cy ao f) H1 := fun hk => lk_kept hO (fun i j x y hx hy => by
    obtain ⟨h1, h2⟩ := rw_k hx
    obtain ⟨h3, h4⟩ := ow_k hy
    rw [h2, h4]
    exact hdj i h1) hk
  refine lv_aload_n hx hb dL_index_0 rfl (lv_at hl 3 rfl) ?_
  refine lv_iconst (v := 0) hx hb dL_index_1 (by decide) ?_
  refine lv_aload_n hx hb dL_index_2 rfl (lv_at hl 0 rfl) ?_
  refine lv_iload_n hx hb dL_index_3 rfl (lv_at hl 1 rfl) ?_
  refine lv_iload_n hx hb dL_index_4 rfl (lv_at hl 2 rfl) ?_
  refine lk_xl (As := [.int x1, .int x2]) (rest := [.int 0, .ref ao]) C (kX4_index hEE hst h) (cwV 2 hts gL_index_X4_index rfl rfl rfl (by decide +kernel) ⟨Nat.le_of_ble_eq_true rfl, Nat.le_of_ble_eq_true rfl⟩) rw_Main rfl rfl rfl hP hD hS hl.1 rfl (Nat.le_of_ble_eq_true rfl) ⟨Nat.le_of_ble_eq_true rfl, Nat.le_of_ble_eq_true rfl⟩ dL_index_5 (fun hr0 ce q9 H1 locs1 hP1 hD1 hS1 hk1 hc1 hv1 hf1 => ?_) (fun r' hr1 H1 locs1 hP1 hD1 hS1 hk1 => ?_)
  · refine vx_catch (own := RL) (name := nse_n) (E := nse_n) hown [] ⟨0, 9, 12, 13⟩ [] htab (fun z hz => by cases hz) (by decide) (by decide) (hts _ wnL_index) (va_Nw.use rfl hE.2.2.2.2.2.2.2.1) hc1 hv1 hf1 ?_
    refine lv_astore (lv' := (4, .ref q9) :: [(0, .ref (ad 17)), (1, .int x1), (2, .int x2), (3, .ref ao)]) hx hb dL_index_12 hl (by decide) rfl (fun ls hl => ?_)
    refine lv_iconst (v := 1) hx hb dL_index_14 (by decide) ?_
    subst hr0
    exact W.iret (v := 1) hx hb hr (fun t ht hW => ⟨⟨1, (S', f), rfl, ⟨rfl, rfl⟩, by rw [ht]; exact hP1, by rw [ht]; exact hkeep hk1⟩, hS1.F ht⟩) hS1.2.2 dL_index_15 hlk
  · refine lk_last (x := r') hx hb hK hP1 hD1 (hkeep hk1) (Or.inr rfl) (fun k x hx9 => by obtain ⟨h1, h2⟩ := rw_k hx9; rw [h2]; exact hdj k h1) hS1 dL_index_8 (fun H2 locs2 hP2 hO2 hS2 => ?_)
    refine lv_goto (tgt := 16) hx hb dL_index_9 (by decide) ?_
    refine lv_iconst (v := 0) hx hb dL_index_16 (by decide) ?_
    subst hr1
    exact W.iret (v := 0) hx hb hr (fun t ht hW => ⟨⟨0, (S', vp_updL f 0 (r')), rfl, ⟨rfl, rfl⟩, by rw [ht]; exact hP2, by rw [ht]; exact hO2⟩, hS2.F ht⟩) hS2.2.2 dL_index_17 hlk
theorem wnL_off : Cond.classLink RL 13 nse_n ∈ wsL_off := by decide +kernel
abbrev rmL_off : Room := { frames := 7, cells := 1, slots := 6, locals := 200 }
set_option maxHeartbeats 4000000 in
set_option maxRecDepth 100000 in
theorem kL_off {l : Launch} {D : va_G} {cy : Nat → ClassId} {ad : Nat → Nat} {ao : Nat} {kn kv : Nat → Nat} (hst : l.stackTraces = false) {x1 : Int32} {x2 : Int32} {S : RSt} {f : Nat → Int64} {r : Option Int64} {S' : RSt} (h : fX4_off x1 x2 S = some (r, S')) : lh_M l D cy ad ao kn kv yL_off wsL_off rmL_off [.ref (ad 17), .int x1, .int x2, .ref ao] S f (lh_ki r) S' (lh_fl r f) := by
  intro sz
  refine va_MetW (cc := cL_off) (maxL := 5) (ret := some .int) (hh := [(0, 9, 12, 13)]) (by decide) rfl ?_
  intro p e s m args below meth c s₁ B hml hv
  obtain ⟨rfl, hsz, hP, hO, hK, hD0, hdj, hE⟩ := hv
  have hts := atoms_spec (ws := wsL_off) B.pre
  have hown : s.vm.findClass RL = some m.cls := findClass_of_methodNamed B.named
  have htab := vx_table (x := yX4_pair) B (hts _ List.mem_cons_self)
  subst hsz
  have hA : ∀ q : Nat, s.heap.size ≤ q → lh_A cy ad ao S s.heap.size q := fun q h => Or.inl (Or.inr h)
  have hD : va_D (lh_A cy ad ao S s.heap.size) (rw_w cy ad S) := ⟨hD0.1, fun k q hq => Or.inl (va_A.in hq)⟩
  have C : km_C p s m _ meth c cL_off 5 RL wsL_off (some .int) D (rw_t cy) (ke_R kn kv) (lh_A cy ad ao S s.heap.size) := ⟨⟨B.exec, B.bytes, hml, hown, hts⟩, B.returns, B.notSynchronized, hK, hA, hE, ke_Rok kn kv⟩
  have hS : va_S (lh_A cy ad ao S s.heap.size) s.heap s.heap [] := va_S.rf
  obtain ⟨⟨hx, hb, -, -, -⟩, hr, hlk, -, -, -, hEE⟩ := id C
  have hl := lv_entry [.ref (ad 17), .int x1, .int x2, .ref ao] (n := 5) (Nat.le_of_ble_eq_true rfl)
  rw [lg_entry_eq]
  generalize (lg_sl [.ref (ad 17), .int x1, .int x2, .ref ao] ++ List.replicate (5 - (lg_sl [.ref (ad 17), .int x1, .int x2, .ref ao]).length) Slot.unset).toArray = ls at hl ⊢
  have hl : lv_has ls 5 [(0, .ref (ad 17)), (1, .int x1), (2, .int x2), (3, .ref ao)] := hl
  have hkeep : ∀ {H1 : Heap}, (∀ q : Nat, q < s.heap.size → ¬ va_A (rw_w cy ad S) s.heap.size q → H1[q]? = s.heap[q]?) → va_P D vwCl (ow_w cy ao f) H1 := fun hk => lk_kept hO (fun i j x y hx hy => by
    obtain ⟨h1, h2⟩ := rw_k hx
    obtain ⟨h3, h4⟩ := ow_k hy
    rw [h2, h4]
    exact hdj i h1) hk
  refine lv_aload_n hx hb dL_off_0 rfl (lv_at hl 3 rfl) ?_
  refine lv_iconst (v := 0) hx hb dL_off_1 (by decide) ?_
  refine lv_aload_n hx hb dL_off_2 rfl (lv_at hl 0 rfl) ?_
  refine lv_iload_n hx hb dL_off_3 rfl (lv_at hl 1 rfl) ?_
  refine lv_iload_n hx hb dL_off_4 rfl (lv_at hl 2 rfl) ?_
  refine lk_xl (As := [.int x1, .int x2]) (rest := [.int 0, .ref ao]) C (kX4_off hEE hst h) (cwV 2 hts gL_off_X4_off rfl rfl rfl (by decide +kernel) ⟨Nat.le_of_ble_eq_true rfl, Nat.le_of_ble_eq_true rfl⟩) rw_Main rfl rfl rfl hP hD hS hl.1 rfl (Nat.le_of_ble_eq_true rfl) ⟨Nat.le_of_ble_eq_true rfl, Nat.le_of_ble_eq_true rfl⟩ dL_off_5 (fun hr0 ce q9 H1 locs1 hP1 hD1 hS1 hk1 hc1 hv1 hf1 => ?_) (fun r' hr1 H1 locs1 hP1 hD1 hS1 hk1 => ?_)
  · refine vx_catch (own := RL) (name := nse_n) (E := nse_n) hown [] ⟨0, 9, 12, 13⟩ [] htab (fun z hz => by cases hz) (by decide) (by decide) (hts _ wnL_off) (va_Nw.use rfl hE.2.2.2.2.2.2.2.1) hc1 hv1 hf1 ?_
    refine lv_astore (lv' := (4, .ref q9) :: [(0, .ref (ad 17)), (1, .int x1), (2, .int x2), (3, .ref ao)]) hx hb dL_off_12 hl (by decide) rfl (fun ls hl => ?_)
    refine lv_iconst (v := 1) hx hb dL_off_14 (by decide) ?_
    subst hr0
    exact W.iret (v := 1) hx hb hr (fun t ht hW => ⟨⟨1, (S', f), rfl, ⟨rfl, rfl⟩, by rw [ht]; exact hP1, by rw [ht]; exact hkeep hk1⟩, hS1.F ht⟩) hS1.2.2 dL_off_15 hlk
  · refine lk_last (x := r') hx hb hK hP1 hD1 (hkeep hk1) (Or.inr rfl) (fun k x hx9 => by obtain ⟨h1, h2⟩ := rw_k hx9; rw [h2]; exact hdj k h1) hS1 dL_off_8 (fun H2 locs2 hP2 hO2 hS2 => ?_)
    refine lv_goto (tgt := 16) hx hb dL_off_9 (by decide) ?_
    refine lv_iconst (v := 0) hx hb dL_off_16 (by decide) ?_
    subst hr1
    exact W.iret (v := 0) hx hb hr (fun t ht hW => ⟨⟨0, (S', vp_updL f 0 (r')), rfl, ⟨rfl, rfl⟩, by rw [ht]; exact hP2, by rw [ht]; exact hO2⟩, hS2.F ht⟩) hS2.2.2 dL_off_17 hlk
theorem wnL_without : Cond.classLink RL 13 nse_n ∈ wsL_without := by decide +kernel
abbrev rmL_without : Room := { frames := 7, cells := 1, slots := 6, locals := 200 }
set_option maxHeartbeats 4000000 in
set_option maxRecDepth 100000 in
theorem kL_without {l : Launch} {D : va_G} {cy : Nat → ClassId} {ad : Nat → Nat} {ao : Nat} {kn kv : Nat → Nat} (hst : l.stackTraces = false) {x1 : Int32} {x2 : Int32} {x3 : Int32} {S : RSt} {f : Nat → Int64} {r : Option Int64} {S' : RSt} (h : fX4_without x1 x2 x3 S = some (r, S')) : lh_M l D cy ad ao kn kv yL_without wsL_without rmL_without [.ref (ad 17), .int x1, .int x2, .int x3, .ref ao] S f (lh_ki r) S' (lh_fl r f) := by
  intro sz
  refine va_MetW (cc := cL_without) (maxL := 6) (ret := some .int) (hh := [(0, 11, 14, 13)]) (by decide) rfl ?_
  intro p e s m args below meth c s₁ B hml hv
  obtain ⟨rfl, hsz, hP, hO, hK, hD0, hdj, hE⟩ := hv
  have hts := atoms_spec (ws := wsL_without) B.pre
  have hown : s.vm.findClass RL = some m.cls := findClass_of_methodNamed B.named
  have htab := vx_table (x := yX4_pair) B (hts _ List.mem_cons_self)
  subst hsz
  have hA : ∀ q : Nat, s.heap.size ≤ q → lh_A cy ad ao S s.heap.size q := fun q h => Or.inl (Or.inr h)
  have hD : va_D (lh_A cy ad ao S s.heap.size) (rw_w cy ad S) := ⟨hD0.1, fun k q hq => Or.inl (va_A.in hq)⟩
  have C : km_C p s m _ meth c cL_without 6 RL wsL_without (some .int) D (rw_t cy) (ke_R kn kv) (lh_A cy ad ao S s.heap.size) := ⟨⟨B.exec, B.bytes, hml, hown, hts⟩, B.returns, B.notSynchronized, hK, hA, hE, ke_Rok kn kv⟩
  have hS : va_S (lh_A cy ad ao S s.heap.size) s.heap s.heap [] := va_S.rf
  obtain ⟨⟨hx, hb, -, -, -⟩, hr, hlk, -, -, -, hEE⟩ := id C
  have hl := lv_entry [.ref (ad 17), .int x1, .int x2, .int x3, .ref ao] (n := 6) (Nat.le_of_ble_eq_true rfl)
  rw [lg_entry_eq]
  generalize (lg_sl [.ref (ad 17), .int x1, .int x2, .int x3, .ref ao] ++ List.replicate (6 - (lg_sl [.ref (ad 17), .int x1, .int x2, .int x3, .ref ao]).length) Slot.unset).toArray = ls at hl ⊢
  have hl : lv_has ls 6 [(0, .ref (ad 17)), (1, .int x1), (2, .int x2), (3, .int x3), (4, .ref ao)] := hl
  have hkeep : ∀ {H1 : Heap}, (∀ q : Nat, q < s.heap.size → ¬ va_A (rw_w cy ad S) s.heap.size q → H1[q]? = s.heap[q]?) → va_P D vwCl (ow_w cy ao f) H1 := fun hk => lk_kept hO (fun i j x y hx hy => by
    obtain ⟨h1, h2⟩ := rw_k hx
    obtain ⟨h3, h4⟩ := ow_k hy
    rw [h2, h4]
    exact hdj i h1) hk
  refine lv_aload hx hb dL_without_0 (lv_at hl 4 rfl) ?_
  refine lv_iconst (v := 0) hx hb dL_without_2 (by decide) ?_
  refine lv_aload_n hx hb dL_without_3 rfl (lv_at hl 0 rfl) ?_
  refine lv_iload_n hx hb dL_without_4 rfl (lv_at hl 1 rfl) ?_
  refine lv_iload_n hx hb dL_without_5 rfl (lv_at hl 2 rfl) ?_
  refine lv_iload_n hx hb dL_without_6 rfl (lv_at hl 3 rfl) ?_
  refine lk_xl (As := [.int x1, .int x2, .int x3]) (rest := [.int 0, .ref ao]) C (kX4_without hEE hst h) (cwV 3 hts gL_without_X4_without rfl rfl rfl (by decide +kernel) ⟨Nat.le_of_ble_eq_true rfl, Nat.le_of_ble_eq_true rfl⟩) rw_Main rfl rfl rfl hP hD hS hl.1 rfl (Nat.le_of_ble_eq_true rfl) ⟨Nat.le_of_ble_eq_true rfl, Nat.le_of_ble_eq_true rfl⟩ dL_without_7 (fun hr0 ce q9 H1 locs1 hP1 hD1 hS1 hk1 hc1 hv1 hf1 => ?_) (fun r' hr1 H1 locs1 hP1 hD1 hS1 hk1 => ?_)
  · refine vx_catch (own := RL) (name := nse_n) (E := nse_n) hown [] ⟨0, 11, 14, 13⟩ [] htab (fun z hz => by cases hz) (by decide) (by decide) (hts _ wnL_without) (va_Nw.use rfl hE.2.2.2.2.2.2.2.1) hc1 hv1 hf1 ?_
    refine lv_astore (lv' := (5, .ref q9) :: [(0, .ref (ad 17)), (1, .int x1), (2, .int x2), (3, .int x3), (4, .ref ao)]) hx hb dL_without_14 hl (by decide) rfl (fun ls hl => ?_)
    refine lv_iconst (v := 1) hx hb dL_without_16 (by decide) ?_
    subst hr0
    exact W.iret (v := 1) hx hb hr (fun t ht hW => ⟨⟨1, (S', f), rfl, ⟨rfl, rfl⟩, by rw [ht]; exact hP1, by rw [ht]; exact hkeep hk1⟩, hS1.F ht⟩) hS1.2.2 dL_without_17 hlk
  · refine lk_last (x := r') hx hb hK hP1 hD1 (hkeep hk1) (Or.inr rfl) (fun k x hx9 => by obtain ⟨h1, h2⟩ := rw_k hx9; rw [h2]; exact hdj k h1) hS1 dL_without_10 (fun H2 locs2 hP2 hO2 hS2 => ?_)
    refine lv_goto (tgt := 18) hx hb dL_without_11 (by decide) ?_
    refine lv_iconst (v := 0) hx hb dL_without_18 (by decide) ?_
    subst hr1
    exact W.iret (v := 0) hx hb hr (fun t ht hW => ⟨⟨0, (S', vp_updL f 0 (r')), rfl, ⟨rfl, rfl⟩, by rw [ht]; exact hP2, by rw [ht]; exact hO2⟩, hS2.F ht⟩) hS2.2.2 dL_without_19 hlk
theorem wnL_revised : Cond.classLink RL 13 nse_n ∈ wsL_revised := by decide +kernel
abbrev rmL_revised : Room := { frames := 7, cells := 1, slots := 6, locals := 200 }
set_option maxHeartbeats 4000000 in
set_option maxRecDepth 100000 in
theorem kL_revised {l : Launch} {D : va_G} {cy : Nat → ClassId} {ad : Nat → Nat} {ao : Nat} {kn kv : Nat → Nat} (hst : l.stackTraces = false) {x1 : Int32} {x2 : Int32} {x3 : Int32} {x4 : Int32} {x5 : Int32} {S : RSt} {f : Nat → Int64} {r : Option Int64} {S' : RSt} (h : fX4_revised x1 x2 x3 x4 x5 S = some (r, S')) : lh_M l D cy ad ao kn kv yL_revised wsL_revised rmL_revised [.ref (ad 17), .int x1, .int x2, .int x3, .int x4, .int x5, .ref ao] S f (lh_ki r) S' (lh_fl r f) := by
  intro sz
  refine va_MetW (cc := cL_revised) (maxL := 8) (ret := some .int) (hh := [(0, 15, 18, 13)]) (by decide) rfl ?_
  intro p e s m args below meth c s₁ B hml hv
  obtain ⟨rfl, hsz, hP, hO, hK, hD0, hdj, hE⟩ := hv
  have hts := atoms_spec (ws := wsL_revised) B.pre
  have hown : s.vm.findClass RL = some m.cls := findClass_of_methodNamed B.named
  have htab := vx_table (x := yX4_pair) B (hts _ List.mem_cons_self)
  subst hsz
  have hA : ∀ q : Nat, s.heap.size ≤ q → lh_A cy ad ao S s.heap.size q := fun q h => Or.inl (Or.inr h)
  have hD : va_D (lh_A cy ad ao S s.heap.size) (rw_w cy ad S) := ⟨hD0.1, fun k q hq => Or.inl (va_A.in hq)⟩
  have C : km_C p s m _ meth c cL_revised 8 RL wsL_revised (some .int) D (rw_t cy) (ke_R kn kv) (lh_A cy ad ao S s.heap.size) := ⟨⟨B.exec, B.bytes, hml, hown, hts⟩, B.returns, B.notSynchronized, hK, hA, hE, ke_Rok kn kv⟩
  have hS : va_S (lh_A cy ad ao S s.heap.size) s.heap s.heap [] := va_S.rf
  obtain ⟨⟨hx, hb, -, -, -⟩, hr, hlk, -, -, -, hEE⟩ := id C
  have hl := lv_entry [.ref (ad 17), .int x1, .int x2, .int x3, .int x4, .int x5, .ref ao] (n := 8) (Nat.le_of_ble_eq_true rfl)
  rw [lg_entry_eq]
  generalize (lg_sl [.ref (ad 17), .int x1, .int x2, .int x3, .int x4, .int x5, .ref ao] ++ List.replicate (8 - (lg_sl [.ref (ad 17), .int x1, .int x2, .int x3, .int x4, .int x5, .ref ao]).length) Slot.unset).toArray = ls at hl ⊢
  have hl : lv_has ls 8 [(0, .ref (ad 17)), (1, .int x1), (2, .int x2), (3, .int x3), (4, .int x4), (5, .int x5), (6, .ref ao)] := hl
  have hkeep : ∀ {H1 : Heap}, (∀ q : Nat, q < s.heap.size → ¬ va_A (rw_w cy ad S) s.heap.size q → H1[q]? = s.heap[q]?) → va_P D vwCl (ow_w cy ao f) H1 := fun hk => lk_kept hO (fun i j x y hx hy => by
    obtain ⟨h1, h2⟩ := rw_k hx
    obtain ⟨h3, h4⟩ := ow_k hy
    rw [h2, h4]
    exact hdj i h1) hk
  refine lv_aload hx hb dL_revised_0 (lv_at hl 6 rfl) ?_
  refine lv_iconst (v := 0) hx hb dL_revised_2 (by decide) ?_
  refine lv_aload_n hx hb dL_revised_3 rfl (lv_at hl 0 rfl) ?_
  refine lv_iload_n hx hb dL_revised_4 rfl (lv_at hl 1 rfl) ?_
  refine lv_iload_n hx hb dL_revised_5 rfl (lv_at hl 2 rfl) ?_
  refine lv_iload_n hx hb dL_revised_6 rfl (lv_at hl 3 rfl) ?_
  refine lv_iload hx hb dL_revised_7 (lv_at hl 4 rfl) ?_
  refine lv_iload hx hb dL_revised_9 (lv_at hl 5 rfl) ?_
  refine lk_xl (As := [.int x1, .int x2, .int x3, .int x4, .int x5]) (rest := [.int 0, .ref ao]) C (kX4_revised hEE hst h) (cwV 5 hts gL_revised_X4_revised rfl rfl rfl (by decide +kernel) ⟨Nat.le_of_ble_eq_true rfl, Nat.le_of_ble_eq_true rfl⟩) rw_Main rfl rfl rfl hP hD hS hl.1 rfl (Nat.le_of_ble_eq_true rfl) ⟨Nat.le_of_ble_eq_true rfl, Nat.le_of_ble_eq_true rfl⟩ dL_revised_11 (fun hr0 ce q9 H1 locs1 hP1 hD1 hS1 hk1 hc1 hv1 hf1 => ?_) (fun r' hr1 H1 locs1 hP1 hD1 hS1 hk1 => ?_)
  · refine vx_catch (own := RL) (name := nse_n) (E := nse_n) hown [] ⟨0, 15, 18, 13⟩ [] htab (fun z hz => by cases hz) (by decide) (by decide) (hts _ wnL_revised) (va_Nw.use rfl hE.2.2.2.2.2.2.2.1) hc1 hv1 hf1 ?_
    refine lv_astore (lv' := (7, .ref q9) :: [(0, .ref (ad 17)), (1, .int x1), (2, .int x2), (3, .int x3), (4, .int x4), (5, .int x5), (6, .ref ao)]) hx hb dL_revised_18 hl (by decide) rfl (fun ls hl => ?_)
    refine lv_iconst (v := 1) hx hb dL_revised_20 (by decide) ?_
    subst hr0
    exact W.iret (v := 1) hx hb hr (fun t ht hW => ⟨⟨1, (S', f), rfl, ⟨rfl, rfl⟩, by rw [ht]; exact hP1, by rw [ht]; exact hkeep hk1⟩, hS1.F ht⟩) hS1.2.2 dL_revised_21 hlk
  · refine lk_last (x := r') hx hb hK hP1 hD1 (hkeep hk1) (Or.inr rfl) (fun k x hx9 => by obtain ⟨h1, h2⟩ := rw_k hx9; rw [h2]; exact hdj k h1) hS1 dL_revised_14 (fun H2 locs2 hP2 hO2 hS2 => ?_)
    refine lv_goto (tgt := 22) hx hb dL_revised_15 (by decide) ?_
    refine lv_iconst (v := 0) hx hb dL_revised_22 (by decide) ?_
    subst hr1
    exact W.iret (v := 0) hx hb hr (fun t ht hW => ⟨⟨0, (S', vp_updL f 0 (r')), rfl, ⟨rfl, rfl⟩, by rw [ht]; exact hP2, by rw [ht]; exact hO2⟩, hS2.F ht⟩) hS2.2.2 dL_revised_23 hlk
