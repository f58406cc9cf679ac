/-! Objects made: array classes are one each; cells that are alike; the small world of a book. -/
theorem va_AOA.spec {ty : FieldType} {U : State} (h : va_AOA ty U) : ∃ comp c k, U.vm.findClass (FieldType.array ty).toString = some comp ∧ (U.vm.classes.findIdx? fun (x : Class) => match x.kind with | .array component _ => component == comp | _ => false) = some c ∧ U.vm.classes[c]? = some k ∧ k.kind = .array comp (.array ty) ∧ U.vm.findClass ("[" ++ (FieldType.array ty).toString) = some c := by
  unfold va_AOA Cond.before at h
  simp only [Cond.holds, Cond.value, beq_iff_eq] at h
  cases hc : U.vm.findClass (FieldType.array ty).toString with
  | none => simp [hc] at h
  | some comp =>
    simp only [hc, Option.bind_some, Option.bind_eq_some_iff, Option.map_eq_some_iff] at h
    obtain ⟨c, hi, k, hk, hb⟩ := h
    obtain ⟨hlt, hp, -⟩ := Array.findIdx?_eq_some_iff_getElem.mp hi
    have hkk : U.vm.classes[c] = k := (Array.getElem?_eq_some_iff.mp hk).2
    rw [hkk] at hp
    cases hkind : k.kind with
    | array component ty =>
      rw [hkind] at hb hp
      simp at hb hp
      exact ⟨comp, c, k, rfl, hi, hk, by rw [hkind, hp, hb.1], hb.2⟩
    | _ => rw [hkind] at hb; simp at hb
theorem va_AOA.moved {ty : FieldType} {u U : State} (hvm : u.vm.Alike U.vm) (h : va_AOA ty u) : va_AOA ty U := by
  obtain ⟨comp, c, k, h1, h2, h3, h4, h5⟩ := va_AOA.spec h
  obtain ⟨k', hk', he⟩ := hvm.2.2 _ _ h3
  have hi : (U.vm.classes.findIdx? fun (x : Class) => match x.kind with | .array component _ => component == comp | _ => false) = some c := by
    refine Eq.trans (va_idx_bare U.vm comp).symm ?_
    first | rw [hvm.bare_eq] | rw [← hvm.bare_eq]
    exact (va_idx_bare u.vm comp).trans h2
  have hkind : k'.kind = .array comp (.array ty) := by rw [he]; exact h4
  have f1 : U.vm.findClass (FieldType.array ty).toString = some comp := by rw [hvm.findClass]; exact h1
  have f2 : U.vm.findClass ("[" ++ (FieldType.array ty).toString) = some c := by rw [hvm.findClass]; exact h5
  unfold va_AOA Cond.before Cond.holds
  simp only [Cond.value]
  rw [f1, Option.bind_some]
  refine (congrArg (fun o : Option Nat => (o.bind (fun c => (U.vm.classes[c]?).map fun (k : Class) => match k.kind with | .array _ t => decide (t = FieldType.array ty) && decide (U.vm.findClass ("[" ++ (FieldType.array ty).toString) = some c) | _ => false) == some true)) hi).trans ?_
  simp [hk', hkind, f2]
theorem va_RA_one {U : State} {a b : ClassId} {ty : FieldType} (h : va_RA U a ty) (h' : va_RA U b ty) : a = b := by
  cases ty with
  | object C =>
    obtain ⟨_, _, _, _, _, h4⟩ := h
    obtain ⟨_, _, _, _, _, h4'⟩ := h'
    exact Option.some.inj (h4.symm.trans h4')
  | _ => exact Option.some.inj ((show U.vm.findClass _ = some a from h).symm.trans h')
theorem va_K_one {D : va_G} {cl : List vw_C} {tys : List (ClassId × FieldType)} {U : State} {a b : ClassId} {ty : FieldType} (h : va_K D cl (tys ++ [(a, ty)]) U) (t0 : Nat) (ht : tys[t0]? = some (b, ty)) : a = b := by
  have h1 := (h.2 tys.length (a, ty) (by simp)).2
  have h2 := (h.2 t0 (b, ty) (by rw [List.getElem?_append_left (List.getElem?_eq_some_iff.mp ht).1]; exact ht)).2
  exact va_RA_one h1 h2
theorem arrV_cg {c : ClassId} {n : Nat} {f g : Nat → Value} (h : ∀ j, j < n → f j = g j) : arrV c n f = arrV c n g := by
  unfold arrV
  congr 1
  apply Array.ext
  · simp
  · intro i h1 h2
    simp at h1
    simp [h i h1]
/-- cells that are alike -/
def eqE (e e' : va_E) : Prop := match e, e' with
  | .inl a, .inl b => vp_cell a.1 a.2 = vp_cell b.1 b.2
  | .inr a, .inr b => a = b
  | _, _ => False
theorem eqE_rf (e : va_E) : eqE e e := by
  cases e <;> rfl
theorem eqE_i {c : ClassId} {n : Nat} {f g : Nat → Int32} (h : ∀ j, j < n → f j = g j) : eqE (.inl (c, n, .inl f)) (.inl (c, n, .inl g)) := show vp_cell c (n, .inl f) = vp_cell c (n, .inl g) from arrV_cg (f := fun j => .int (f j)) (g := fun j => .int (g j)) (fun j hj => congrArg Value.int (h j hj))
theorem eqE_q {c : ClassId} {n : Nat} {f g : Nat → Option Nat} (h : ∀ j, j < n → f j = g j) : eqE (.inl (c, n, .inr (.inr (.inr (.inr f))))) (.inl (c, n, .inr (.inr (.inr (.inr g))))) := show vp_cell c (n, .inr (.inr (.inr (.inr f)))) = vp_cell c (n, .inr (.inr (.inr (.inr g)))) from arrV_cg (f := fun j => va_rf (f j)) (g := fun j => va_rf (g j)) (fun j hj => congrArg va_rf (h j hj))
theorem va_P.rep {D : va_G} {cl : List vw_C} {ws : va_W} {H : Heap} (hP : va_P D cl ws H) (k0 : Nat) {a : Nat} {e e' : va_E} (h0 : ws[k0]? = some (a, e)) (he : eqE e e') : va_P D cl (ws.set k0 (a, e')) H := by
  intro k q hq
  by_cases c : k = k0
  · subst c
    have hl := (List.getElem?_eq_some_iff.mp h0).1
    rw [List.getElem?_set_self hl] at hq
    cases hq
    have h1 := hP k _ h0
    unfold va_at at h1 ⊢
    cases e with
    | inl x => cases e' with
      | inl x' => exact h1.trans (congrArg some he)
      | inr x' => exact he.elim
    | inr x => cases e' with
      | inl x' => exact he.elim
      | inr x' =>
        have he : x = x' := he
        subst he
        exact h1
  · rw [List.getElem?_set_ne (fun z => c z.symm)] at hq
    exact hP k q hq
theorem va_D.rep {A : Nat → Prop} {ws : va_W} (hD : va_D A ws) (k0 : Nat) {a : Nat} {e : va_E} (e' : va_E) (h0 : ws[k0]? = some (a, e)) : va_D A (ws.set k0 (a, e')) := by
  have g : ∀ (k : Nat) (q : Nat × va_E), (ws.set k0 (a, e'))[k]? = some q → ∃ q' : Nat × va_E, ws[k]? = some q' ∧ q'.1 = q.1 := fun k q hq => by
    by_cases c : k = k0
    · subst c
      rw [List.getElem?_set_self (List.getElem?_eq_some_iff.mp h0).1] at hq
      cases hq
      exact ⟨_, h0, rfl⟩
    · rw [List.getElem?_set_ne (fun z => c z.symm)] at hq
      exact ⟨q, hq, rfl⟩
  refine ⟨fun i j p q hi hj e => ?_, fun k q hq => ?_⟩
  · obtain ⟨p', hp', ep⟩ := g i p hi
    obtain ⟨q', hq', eq⟩ := g j q hj
    exact hD.1 i j p' q' hp' hq' (by rw [ep, eq, e])
  · obtain ⟨q', hq', eq⟩ := g k q hq
    rw [← eq]
    exact hD.2 k q' hq'
/-- rows of arrays that were made together -/
theorem va_pl_up {f : Nat → va_E} {v : va_E} {l : List Nat} : va_pl l (vr_up f l v) = l.map (fun a => (a, v)) := by
  unfold va_pl
  exact List.map_congr_left (fun a ha => by rw [vr_up_in ha])
def mk_E (U : State) : Prop := va_AO RX0 U ∧ va_AOA .int U ∧ va_AOA .long U
theorem mk_E.moved {u U : State} (hvm : u.vm.Alike U.vm) (h : mk_E u) : mk_E U := ⟨h.1.moved hvm, h.2.1.moved hvm, h.2.2.moved hvm⟩
/-- a book alone -/
def bw_w (cy : Nat → ClassId) (ad : Nat → Nat) (S : RSt) : va_W := [(ad 0, .inr (0, [.int (st_i S (3 * 0)), .int (st_i S (3 * 0 + 1)), .int (st_i S (3 * 0 + 2)), .ref (ad 1), .ref (ad 2)])), (ad 1, .inl (cy 0, 8, .inl (st_a S (2 * 0)))), (ad 2, .inl (cy 0, 48, .inl (st_a S (2 * 0 + 1))))]
abbrev bw_t (cy : Nat → ClassId) : List (ClassId × FieldType) := [(cy 0, .int)]
section BW
variable {cy : Nat → ClassId} {ad : Nat → Nat} {S : RSt} {i : Nat}
theorem bw_Book : (bw_w cy ad S)[0]? = some (ad 0, .inr (0, [.int (st_i S (3 * 0)), .int (st_i S (3 * 0 + 1)), .int (st_i S (3 * 0 + 2)), .ref (ad 1), .ref (ad 2)])) := rfl
theorem bw_weights : (bw_w cy ad S)[1]? = some (ad 1, .inl (cy 0, 8, .inl (st_a S (2 * 0)))) := rfl
theorem bw_levels : (bw_w cy ad S)[2]? = some (ad 2, .inl (cy 0, 48, .inl (st_a S (2 * 0 + 1)))) := rfl
theorem bw_s_Book_months {v : Int32} : (bw_w cy ad S).set 0 (ad 0, .inr (0, [.int v, .int (st_i S (3 * 0 + 1)), .int (st_i S (3 * 0 + 2)), .ref (ad 1), .ref (ad 2)])) = bw_w cy ad (st_si S (3 * 0) v) := rfl
theorem bw_s_Book_homes {v : Int32} : (bw_w cy ad S).set 0 (ad 0, .inr (0, [.int (st_i S (3 * 0)), .int v, .int (st_i S (3 * 0 + 2)), .ref (ad 1), .ref (ad 2)])) = bw_w cy ad (st_si S (3 * 0 + 1) v) := rfl
theorem bw_s_Book_sales {v : Int32} : (bw_w cy ad S).set 0 (ad 0, .inr (0, [.int (st_i S (3 * 0)), .int (st_i S (3 * 0 + 1)), .int v, .ref (ad 1), .ref (ad 2)])) = bw_w cy ad (st_si S (3 * 0 + 2) v) := rfl
theorem bw_s_weights {v : Int32} : (bw_w cy ad S).set 1 (ad 1, .inl (cy 0, 8, .inl (upd (st_a S (2 * 0)) i v))) = bw_w cy ad (st_sa S (2 * 0) i v) := rfl
theorem bw_s_levels {v : Int32} : (bw_w cy ad S).set 2 (ad 2, .inl (cy 0, 48, .inl (upd (st_a S (2 * 0 + 1)) i v))) = bw_w cy ad (st_sa S (2 * 0 + 1) i v) := rfl
end BW
set_option maxHeartbeats 4000000 in
set_option maxRecDepth 100000 in
theorem kB_reset_L17 {l : Launch} {D : va_G} {cy : Nat → ClassId} {ad : Nat → Nat} {E : ke_T} {p : Program} {e : Env} {s : State} {m : MethodId} {args : Array Value} {below : List Frame} {meth : Method} {c : Code} {A : Nat → Prop} {Q : State → Prop} (C : km_C p s m args meth c cX0_reset 3 RX0 wsX0_reset none D (bw_t cy) E A) : ∀ (n : Nat) (x2 : Int32) (S : RSt) (S' : RSt) (h : fX0_reset_L17 0 n x2 S = some S') {H : Heap} {locs : List Loc} {ls : Array Slot} (hP : va_P D vwCl ((bw_w cy ad) S) H) (hD : va_D A ((bw_w cy ad) S)) (hS : va_S A s.heap H locs) (hl : lv_has ls 3 [(0, .ref (ad 0)), (2, .int x2)]) (kx0 : ∀ (H : Heap) (locs : List Loc) (ls : Array Slot), va_P D vwCl ((bw_w cy ad) S') H → va_D A ((bw_w cy ad) S') → va_S A s.heap H locs → lv_has ls 3 [(0, .ref (ad 0))] → W p l e rmX0_reset s m args below meth c H locs 0 0 Q (F0 m 39 ls [])), W p l e rmX0_reset s m args below meth c H locs 0 0 Q (F0 m 17 ls []) := by
  obtain ⟨⟨hx, hb, hml, hown, hts⟩, hr, hlk, hK, hA, hE, hEE⟩ := id C
  intro n
  induction n with
  | zero =>
    intro x2 S S' h
    rw [fX0_reset_L17] at h
    cases h
  | succ n ih =>
    intro x2 S S' h H locs ls hP hD hS hl kx0
    rw [fX0_reset_L17] at h
    refine lv_iload_n hx hb dX0_reset_17 rfl (lv_at hl 1 rfl) ?_
    refine lv_aload_n hx hb dX0_reset_18 rfl (lv_at hl 0 rfl) ?_
    refine va_get (D := D) (ci := 0) (v := .ref (ad 1)) (C := RX0) (T := TX0) (N := 5) hx hb hts ni_X0_reset_X0 hown hK hP 0 bw_Book rfl 3 (by decide) (hts _ nf_X0_reset_f9) (fun _ h9 => h9) rfl dX0_reset_19 ?_
    refine va_alen (v := 8) hx hb hK hP 1 0 bw_weights rfl (show Int32.ofNat 8 = 8 by decide) dX0_reset_22 ?_
    refine lv_icmp_ge (tgt := 39) hx hb dX0_reset_23 (by decide) (fun c_1 => ?_) (fun c_1 => ?_)
    · have h := ob_t c_1 h
      cases h
      exact kx0 _ _ _ hP hD hS (lv_sub hl [0] rfl)
    · have h := ob_f c_1 h
      refine lv_aload_n hx hb dX0_reset_26 rfl (lv_at hl 0 rfl) ?_
      refine va_get (D := D) (ci := 0) (v := .ref (ad 1)) (C := RX0) (T := TX0) (N := 5) hx hb hts ni_X0_reset_X0 hown hK hP 0 bw_Book rfl 3 (by decide) (hts _ nf_X0_reset_f9) (fun _ h9 => h9) rfl dX0_reset_27 ?_
      refine lv_iload_n hx hb dX0_reset_30 rfl (lv_at hl 1 rfl) ?_
      refine lv_iconst (v := 0) hx hb dX0_reset_31 (by decide) ?_
      obtain ⟨hv_2, h⟩ := ob_in_s h
      refine va_iast hx hb hK hP hD hS 1 0 bw_weights rfl hv_2 dX0_reset_32 (fun H locs hP hD hS => ?_)
      have hP := st_ps bw_s_weights hP
      have hD := st_ds bw_s_weights hD
      refine lv_iinc (v := x2 + (1 : Int32)) (lv' := [(2, .int (x2 + (1 : Int32))), (0, .ref (ad 0))]) hx hb dX0_reset_33 hl (k := 1) rfl (congrArg (fun z => x2 + z) (by decide)) (by decide) rfl (fun ls hl => ?_)
      refine lv_goto (tgt := 17) hx hb dX0_reset_36 (by decide) ?_
      exact ih _ _ _ h hP hD hS (lv_sub hl [1, 0] rfl) kx0
set_option maxHeartbeats 4000000 in
set_option maxRecDepth 100000 in
theorem kB_reset_L41 {l : Launch} {D : va_G} {cy : Nat → ClassId} {ad : Nat → Nat} {E : ke_T} {p : Program} {e : Env} {s : State} {m : MethodId} {args : Array Value} {below : List Frame} {meth : Method} {c : Code} {A : Nat → Prop} {Q : State → Prop} (C : km_C p s m args meth c cX0_reset 3 RX0 wsX0_reset none D (bw_t cy) E A) : ∀ (n : Nat) (x2 : Int32) (S : RSt) (S' : RSt) (h : fX0_reset_L41 0 n x2 S = some S') {H : Heap} {locs : List Loc} {ls : Array Slot} (hP : va_P D vwCl ((bw_w cy ad) S) H) (hD : va_D A ((bw_w cy ad) S)) (hS : va_S A s.heap H locs) (hl : lv_has ls 3 [(0, .ref (ad 0)), (2, .int x2)]) (kx0 : ∀ (H : Heap) (locs : List Loc) (ls : Array Slot), va_P D vwCl ((bw_w cy ad) S') H → va_D A ((bw_w cy ad) S') → va_S A s.heap H locs → lv_has ls 3 [] → W p l e rmX0_reset s m args below meth c H locs 0 0 Q (F0 m 63 ls [])), W p l e rmX0_reset s m args below meth c H locs 0 0 Q (F0 m 41 ls []) := by
  obtain ⟨⟨hx, hb, hml, hown, hts⟩, hr, hlk, hK, hA, hE, hEE⟩ := id C
  intro n
  induction n with
  | zero =>
    intro x2 S S' h
    rw [fX0_reset_L41] at h
    cases h
  | succ n ih =>
    intro x2 S S' h H locs ls hP hD hS hl kx0
    rw [fX0_reset_L41] at h
    refine lv_iload_n hx hb dX0_reset_41 rfl (lv_at hl 1 rfl) ?_
    refine lv_aload_n hx hb dX0_reset_42 rfl (lv_at hl 0 rfl) ?_
    refine va_get (D := D) (ci := 0) (v := .ref (ad 2)) (C := RX0) (T := TX0) (N := 5) hx hb hts ni_X0_reset_X0 hown hK hP 0 bw_Book rfl 4 (by decide) (hts _ nf_X0_reset_f15) (fun _ h9 => h9) rfl dX0_reset_43 ?_
    refine va_alen (v := 48) hx hb hK hP 2 0 bw_levels rfl (show Int32.ofNat 48 = 48 by decide) dX0_reset_46 ?_
    refine lv_icmp_ge (tgt := 63) hx hb dX0_reset_47 (by decide) (fun c_5 => ?_) (fun c_5 => ?_)
    · have h := ob_t c_5 h
      cases h
      exact kx0 _ _ _ hP hD hS (lv_sub hl [] rfl)
    · have h := ob_f c_5 h
      refine lv_aload_n hx hb dX0_reset_50 rfl (lv_at hl 0 rfl) ?_
      refine va_get (D := D) (ci := 0) (v := .ref (ad 2)) (C := RX0) (T := TX0) (N := 5) hx hb hts ni_X0_reset_X0 hown hK hP 0 bw_Book rfl 4 (by decide) (hts _ nf_X0_reset_f15) (fun _ h9 => h9) rfl dX0_reset_51 ?_
      refine lv_iload_n hx hb dX0_reset_54 rfl (lv_at hl 1 rfl) ?_
      refine lv_iconst (v := -1) hx hb dX0_reset_55 (by decide) ?_
      obtain ⟨hv_6, h⟩ := ob_in_s h
      refine va_iast hx hb hK hP hD hS 2 0 bw_levels rfl hv_6 dX0_reset_56 (fun H locs hP hD hS => ?_)
      have hP := st_ps bw_s_levels hP
      have hD := st_ds bw_s_levels hD
      refine lv_iinc (v := x2 + (1 : Int32)) (lv' := [(2, .int (x2 + (1 : Int32))), (0, .ref (ad 0))]) hx hb dX0_reset_57 hl (k := 1) rfl (congrArg (fun z => x2 + z) (by decide)) (by decide) rfl (fun ls hl => ?_)
      refine lv_goto (tgt := 41) hx hb dX0_reset_60 (by decide) ?_
      exact ih _ _ _ h hP hD hS (lv_sub hl [1, 0] rfl) kx0
set_option maxHeartbeats 4000000 in
set_option maxRecDepth 100000 in
theorem kB_reset {l : Launch} {D : va_G} {cy : Nat → ClassId} {ad : Nat → Nat} {E : ke_T} (hEE : km_E E) {x1 : Int32} {S : RSt} {S' : RSt} (h : fX0_reset 0 x1 S = some S') : km_v l D (bw_t cy) (bw_w cy ad) E yX0_reset wsX0_reset rmX0_reset [.ref (ad 0), .int x1] S S' := by
  refine km_v_in (cc := cX0_reset) (nL := 3) hEE (by decide) rfl (Nat.le_of_ble_eq_true rfl) ?_
  intro p e s m below meth c A H ls C hP hD hS hl
  have C : km_C p s m _ meth c cX0_reset 3 RX0 wsX0_reset none D (bw_t cy) E A := C
  obtain ⟨⟨hx, hb, hml, hown, hts⟩, hr, hlk, hK, hA, hE, hEE⟩ := id C
  have hl : lv_has ls 3 [(0, .ref (ad 0)), (1, .int x1)] := hl
  unfold fX0_reset at h
  refine lv_aload_n hx hb dX0_reset_0 rfl (lv_at hl 0 rfl) ?_
  refine lv_iload_n hx hb dX0_reset_1 rfl (lv_at hl 1 rfl) ?_
  refine va_put (D := D) (ci := 0) (v := .int x1) (ty := .int) (C := RX0) (T := TX0) (N := 5) hx hb hts ni_X0_reset_X0 tyX0 tyX0_ok nmX0 hown hK hP hD hS 0 bw_Book rfl 0 (by decide) (hts _ nf_X0_reset_f22) (fun _ h9 => h9) rfl (by decide +kernel) rfl rfl (Nat.le_of_ble_eq_true rfl) dX0_reset_2 (fun H locs hP hD hS => ?_)
  have hP := st_ps bw_s_Book_months hP
  have hD := st_ds bw_s_Book_months hD
  refine lv_aload_n hx hb dX0_reset_5 rfl (lv_at hl 0 rfl) ?_
  refine lv_iconst (v := 0) hx hb dX0_reset_6 (by decide) ?_
  refine va_put (D := D) (ci := 0) (v := .int (0 : Int32)) (ty := .int) (C := RX0) (T := TX0) (N := 5) hx hb hts ni_X0_reset_X0 tyX0 tyX0_ok nmX0 hown hK hP hD hS 0 bw_Book rfl 1 (by decide) (hts _ nf_X0_reset_f26) (fun _ h9 => h9) rfl (by decide +kernel) rfl rfl (Nat.le_of_ble_eq_true rfl) dX0_reset_7 (fun H locs hP hD hS => ?_)
  have hP := st_ps bw_s_Book_homes hP
  have hD := st_ds bw_s_Book_homes hD
  refine lv_aload_n hx hb dX0_reset_10 rfl (lv_at hl 0 rfl) ?_
  refine lv_iconst (v := 0) hx hb dX0_reset_11 (by decide) ?_
  refine va_put (D := D) (ci := 0) (v := .int (0 : Int32)) (ty := .int) (C := RX0) (T := TX0) (N := 5) hx hb hts ni_X0_reset_X0 tyX0 tyX0_ok nmX0 hown hK hP hD hS 0 bw_Book rfl 2 (by decide) (hts _ nf_X0_reset_f29) (fun _ h9 => h9) rfl (by decide +kernel) rfl rfl (Nat.le_of_ble_eq_true rfl) dX0_reset_12 (fun H locs hP hD hS => ?_)
  have hP := st_ps bw_s_Book_sales hP
  have hD := st_ds bw_s_Book_sales hD
  refine lv_iconst (v := 0) hx hb dX0_reset_15 (by decide) ?_
  refine lv_istore_n (lv' := [(2, .int (0 : Int32)), (0, .ref (ad 0)), (1, .int x1)]) hx hb dX0_reset_16 rfl hl (by decide) rfl (fun ls hl => ?_)
  obtain ⟨S_4, hq_3, h⟩ := ob_1s h
  refine kB_reset_L17 C _ _ _ _ hq_3 hP hD hS (lv_sub hl [1, 0] rfl) (fun H locs ls hP hD hS hl => ?_)
  refine lv_iconst (v := 0) hx hb dX0_reset_39 (by decide) ?_
  refine lv_istore_n (lv' := [(2, .int (0 : Int32)), (0, .ref (ad 0))]) hx hb dX0_reset_40 rfl hl (by decide) rfl (fun ls hl => ?_)
  obtain ⟨S_8, hq_7, h⟩ := ob_1s h
  refine kB_reset_L41 C _ _ _ _ hq_7 hP hD hS (lv_sub hl [1, 0] rfl) (fun H locs ls hP hD hS hl => ?_)
  obtain rfl := ob_v h
  exact km_vret C hP hD hS dX0_reset_63
