/-! Contracts of methods that answer or throw NoSuchElementException. -/
section KX
variable {p : Program} {l : Launch} {e : Env} {R : Room} {s : State} {m : MethodId} {args : Array Value} {below : List Frame} {meth : Method} {c : Code} {H : Heap} {locs : List Loc} {Q : State → Prop} {cc : ByteArray} {pc nL : Nat} {ls : Array Slot} {own : String} {Ts : List Cond} {ret : Option FieldType} {D : va_G} {tys : List (ClassId × FieldType)} {wd : RSt → va_W} {E : ke_T} {A : Nat → Prop} {av : List Value}
def kx_X {α : Type} (D : va_G) (tys : List (ClassId × FieldType)) (wd : RSt → va_W) (A : Nat → Prop) (r : Option α) (S' : RSt) : String → State → State → Prop := vx_X (fun u : RSt => r = none ∧ u = S') (fun X u t => X = nse_n ∧ km_B D tys wd A u t) A
theorem kx_thr {α : Type} {kn kv : Nat → Nat} {r : Option α} {S S' : RSt} {rest : List Value} {Qc : Array Value → State → Outcome → State → Prop} (C : km_C p s m args meth c cc nL RX4 Ts ret D tys (ke_R kn kv) A) (hst : l.stackTraces = false) (hxt : ∀ x ∈ c.exceptionTable.toList, False) (w1 : Cond.classLink RX4 112 nse_n ∈ Ts) (w2 : Cond.initialized nse_n ∈ Ts) (w3 : ∀ w ∈ (vx_at0 RX4 114 nse_n ["java/lang/RuntimeException", "java/lang/Exception"]).filter goodWord, w ∈ Ts) (hr : r = none) (hSS : S = S') (hP : va_P D vwCl (wd S) H) (hD : va_D A (wd S)) (hS : va_S A s.heap H locs) (hls : ls.size = nL)
    (d0 : decode cc pc = .ok (.new 112, 3)) (d3 : decode cc (pc + 3) = .ok (.dup, 1)) (d4 : decode cc (pc + 4) = .ok (.invokespecial 114, 3)) (d7 : decode cc (pc + 7) = .ok (.athrow, 1)) (h1 : 6 ≤ R.frames) (h2 : (rest.map fun v => v.category).sum + 81 ≤ R.locals) (h3 : 1 ≤ R.cells) (h4 : 6 ≤ R.slots) : W p l e R s m args below meth c H locs 0 0 (vx_MQ below Qc (kx_X D tys wd A r S') args s 1 6 A) (F0 m pc ls rest) := by
  subst hr
  subst hSS
  obtain ⟨⟨hx, hb, hml, hown, hts⟩, hret, hlk, hK, hA, hE, hEE⟩ := C
  have hE' := hE.2.2.2.2.2
  refine vx_throw0 (cls := nse_n) (names := ["java/lang/RuntimeException", "java/lang/Exception"]) (ik := 112) (ic := 114) (A := A) hx hb hst hown (by decide +kernel) (by decide +kernel) (hts _ w1) (hts _ w2) (vx_hat (fun w h => hts w (w3 w h)) vx_ng (vx_c (va_Nw.use rfl hE'.2.2.1) (vx_c (va_Nw.use rfl hE'.2.2.2.1) (vx_c (va_Nw.use rfl hE'.2.2.2.2.1) (vx_c (va_Nw.use rfl hE'.2.2.2.2.2) vx_n))))) vx_gd hE'.1 hE'.2.1 hS (hls.trans hml.symm) d0 d3 d4 d7 (fun x h => (hxt x h).elim) h1 h2 (by omega) (by omega) hlk ?_ hS.2.2 (by omega) (by omega)
  intro t ha hsz hq
  refine ⟨S, ⟨rfl, rfl⟩, ⟨rfl, ?_, va_K.moved ha hK, hD⟩, Nat.le_trans hS.1 hsz, fun q h5 h6 => ?_⟩
  · exact hP.kept (fun k9 x hx9 => hq x.1 ((hP k9 x hx9).lt))
  · rw [hq q (Nat.lt_of_lt_of_le h5 hS.1)]
    exact hS.2.1 q h5 h6
def kx_qi (D : va_G) (tys : List (ClassId × FieldType)) (wd : RSt → va_W) (A : Nat → Prop) (r : Option Int32) (S' : RSt) : Array Value → State → Outcome → State → Prop := va_Qi (fun (r' : Int32) (u : RSt) => r = some r' ∧ u = S') (km_B D tys wd A) A
def kx_i (l : Launch) (D : va_G) (tys : List (ClassId × FieldType)) (wd : RSt → va_W) (E : ke_T) (y : MethodName) (ws : List Cond) (rm : Room) (av : List Value) (S : RSt) (r : Option Int32) (S' : RSt) : Prop :=
  ∀ sz : Nat, vx_Met l y ws rm (km_P D tys wd E av S sz) (kx_qi D tys wd (va_A (wd S) sz) r S') (kx_X D tys wd (va_A (wd S) sz) r S') 1 6 (va_A (wd S) sz)
def kx_Qi (below : List Frame) (D : va_G) (tys : List (ClassId × FieldType)) (wd : RSt → va_W) (A : Nat → Prop) (args : Array Value) (s : State) (r : Option Int32) (S' : RSt) : State → Prop := vx_MQ below (kx_qi D tys wd A r S') (kx_X D tys wd A r S') args s 1 6 A
theorem kx_i_in {y : MethodName} {ws ws' : List Cond} {rm : Room} {S : RSt} {r : Option Int32} {S' : RSt} (hEE : km_E E) (hy : plainName y.cls = true) (hw : ws = Cond.code y cc nL (some .int) :: ws') (hav : (lg_sl av).length ≤ nL)
    (body : ∀ (p : Program) (e : Env) (s : State) (m : MethodId) (below : List Frame) (meth : Method) (c : Code) (A : Nat → Prop) (H : Heap) (ls : Array Slot), km_C p s m av.toArray meth c cc nL y.cls ws (some .int) D tys E A → (∀ x ∈ c.exceptionTable.toList, False) → va_P D vwCl (wd S) H → va_D A (wd S) → va_S A s.heap H [] → lv_has ls nL (lv_args 0 av) →
      W p l e rm s m av.toArray below meth c H [] 0 0 (kx_Qi below D tys wd A av.toArray s r S') (F0 m 0 ls [])) : kx_i l D tys wd E y ws rm av S r S' := by
  intro sz
  refine vx_ofW (cc := cc) (maxL := nL) (ret := (some .int)) hy hw ?_
  intro p e s m args below meth c s₁ B hml hxt hv
  obtain ⟨rfl, hsz, hP, hK, hD0, hE⟩ := hv
  have hts := atoms_spec (ws := ws) B.pre
  have hown : s.vm.findClass y.cls = some m.cls := findClass_of_methodNamed B.named
  subst hsz
  have hD := hD0.self (sz := s.heap.size)
  have hA : ∀ q : Nat, s.heap.size ≤ q → va_A (wd S) s.heap.size q := fun q h => Or.inr h
  have hl := lv_entry av (n := nL) hav
  rw [lg_entry_eq]
  generalize (lg_sl av ++ List.replicate (nL - (lg_sl av).length) Slot.unset).toArray = ls at hl ⊢
  exact body p e s m below meth c _ s.heap ls ⟨⟨B.exec, B.bytes, hml, hown, hts⟩, B.returns, B.notSynchronized, hK, hA, hE, hEE⟩ hxt hP hD va_S.rf hl
theorem kx_iret {r : Int32} {S' : RSt} (C : km_C p s m args meth c cc nL own Ts (some .int) D tys E A) (hP : va_P D vwCl (wd S') H) (hD : va_D A (wd S')) (hS : va_S A s.heap H locs) (hdg : decode cc pc = .ok (.ireturn, 1)) : W p l e R s m args below meth c H locs 0 0 (kx_Qi below D tys wd A args s (some r) S') (F0 m pc ls [.int r]) := by
  obtain ⟨⟨hx, hb, hml, hown, hts⟩, hr, hlk, hK, hA, hE, hEE⟩ := C
  refine vx_ret (W.widen (k := 1) (n := 6) (by omega) (by omega) ?_)
  exact W.iret (v := r) hx hb hr (fun t ht hW => ⟨⟨r, S', rfl, ⟨rfl, rfl⟩, by rw [ht]; exact hP, va_K.moved hW.alike hK, hD⟩, hS.F ht⟩) hS.2.2 hdg hlk
def kx_ql (D : va_G) (tys : List (ClassId × FieldType)) (wd : RSt → va_W) (A : Nat → Prop) (r : Option Int64) (S' : RSt) : Array Value → State → Outcome → State → Prop := va_Ql (fun (r' : Int64) (u : RSt) => r = some r' ∧ u = S') (km_B D tys wd A) A
def kx_l (l : Launch) (D : va_G) (tys : List (ClassId × FieldType)) (wd : RSt → va_W) (E : ke_T) (y : MethodName) (ws : List Cond) (rm : Room) (av : List Value) (S : RSt) (r : Option Int64) (S' : RSt) : Prop :=
  ∀ sz : Nat, vx_Met l y ws rm (km_P D tys wd E av S sz) (kx_ql D tys wd (va_A (wd S) sz) r S') (kx_X D tys wd (va_A (wd S) sz) r S') 1 6 (va_A (wd S) sz)
def kx_Ql (below : List Frame) (D : va_G) (tys : List (ClassId × FieldType)) (wd : RSt → va_W) (A : Nat → Prop) (args : Array Value) (s : State) (r : Option Int64) (S' : RSt) : State → Prop := vx_MQ below (kx_ql D tys wd A r S') (kx_X D tys wd A r S') args s 1 6 A
theorem kx_l_in {y : MethodName} {ws ws' : List Cond} {rm : Room} {S : RSt} {r : Option Int64} {S' : RSt} (hEE : km_E E) (hy : plainName y.cls = true) (hw : ws = Cond.code y cc nL (some .long) :: ws') (hav : (lg_sl av).length ≤ nL)
    (body : ∀ (p : Program) (e : Env) (s : State) (m : MethodId) (below : List Frame) (meth : Method) (c : Code) (A : Nat → Prop) (H : Heap) (ls : Array Slot), km_C p s m av.toArray meth c cc nL y.cls ws (some .long) D tys E A → (∀ x ∈ c.exceptionTable.toList, False) → va_P D vwCl (wd S) H → va_D A (wd S) → va_S A s.heap H [] → lv_has ls nL (lv_args 0 av) →
      W p l e rm s m av.toArray below meth c H [] 0 0 (kx_Ql below D tys wd A av.toArray s r S') (F0 m 0 ls [])) : kx_l l D tys wd E y ws rm av S r S' := by
  intro sz
  refine vx_ofW (cc := cc) (maxL := nL) (ret := (some .long)) hy hw ?_
  intro p e s m args below meth c s₁ B hml hxt hv
  obtain ⟨rfl, hsz, hP, hK, hD0, hE⟩ := hv
  have hts := atoms_spec (ws := ws) B.pre
  have hown : s.vm.findClass y.cls = some m.cls := findClass_of_methodNamed B.named
  subst hsz
  have hD := hD0.self (sz := s.heap.size)
  have hA : ∀ q : Nat, s.heap.size ≤ q → va_A (wd S) s.heap.size q := fun q h => Or.inr h
  have hl := lv_entry av (n := nL) hav
  rw [lg_entry_eq]
  generalize (lg_sl av ++ List.replicate (nL - (lg_sl av).length) Slot.unset).toArray = ls at hl ⊢
  exact body p e s m below meth c _ s.heap ls ⟨⟨B.exec, B.bytes, hml, hown, hts⟩, B.returns, B.notSynchronized, hK, hA, hE, hEE⟩ hxt hP hD va_S.rf hl
theorem kx_lret {r : Int64} {S' : RSt} (C : km_C p s m args meth c cc nL own Ts (some .long) D tys E A) (hP : va_P D vwCl (wd S') H) (hD : va_D A (wd S')) (hS : va_S A s.heap H locs) (hdg : decode cc pc = .ok (.lreturn, 1)) : W p l e R s m args below meth c H locs 0 0 (kx_Ql below D tys wd A args s (some r) S') (F0 m pc ls [.long r]) := by
  obtain ⟨⟨hx, hb, hml, hown, hts⟩, hr, hlk, hK, hA, hE, hEE⟩ := C
  refine vx_ret (W.widen (k := 1) (n := 6) (by omega) (by omega) ?_)
  exact W.lret (v := r) hx hb hr (fun t ht hW => ⟨⟨r, S', rfl, ⟨rfl, rfl⟩, by rw [ht]; exact hP, va_K.moved hW.alike hK, hD⟩, hS.F ht⟩) hS.2.2 hdg hlk
/-- an entry of a class some of whose members the machine has entries for -/
theorem km_l_inF {y : MethodName} {ws ws' : List Cond} {rm : Room} {S : RSt} {r : Int64} {S' : RSt} (hEE : km_E E) (hy : plainFor y = true) (hw : ws = Cond.code y cc nL (some .long) :: ws') (hav : (lg_sl av).length ≤ nL)
    (body : ∀ (p : Program) (e : Env) (s : State) (m : MethodId) (below : List Frame) (meth : Method) (c : Code) (A : Nat → Prop) (H : Heap) (ls : Array Slot), km_C p s m av.toArray meth c cc nL y.cls ws (some .long) D tys E A → va_P D vwCl (wd S) H → va_D A (wd S) → va_S A s.heap H [] → lv_has ls nL (lv_args 0 av) →
      W p l e rm s m av.toArray below meth c H [] 0 0 (km_Ql below D tys wd A av.toArray s r S') (F0 m 0 ls [])) : km_l l D tys wd E y ws rm av S r S' := by
  intro sz
  refine va_MetF (cc := cc) (maxL := nL) (ret := some .long) hy hw ?_
  intro p e s m args below meth c s₁ B hml hv
  obtain ⟨rfl, hsz, hP, hK, hD0, hE⟩ := hv
  have hts := atoms_spec (ws := ws) B.pre
  have hown : s.vm.findClass y.cls = some m.cls := findClass_of_methodNamed B.named
  subst hsz
  have hD := hD0.self (sz := s.heap.size)
  have hA : ∀ q : Nat, s.heap.size ≤ q → va_A (wd S) s.heap.size q := fun q h => Or.inr h
  have hl := lv_entry av (n := nL) hav
  rw [lg_entry_eq]
  generalize (lg_sl av ++ List.replicate (nL - (lg_sl av).length) Slot.unset).toArray = ls at hl ⊢
  exact body p e s m below meth c _ s.heap ls ⟨⟨B.exec, B.bytes, hml, hown, hts⟩, B.returns, B.notSynchronized, hK, hA, hE, hEE⟩ hP hD va_S.rf hl
end KX
