/-! A world's numbers: ints, longs, int rows, long rows; contracts 'km_' over a world that is a function of such a state. -/
abbrev RSt : Type := (Nat → Int32) × (Nat → Int64) × (Nat → Nat → Int32) × (Nat → Nat → Int64)
def st_i (S : RSt) (k : Nat) : Int32 := S.1 k
def st_j (S : RSt) (k : Nat) : Int64 := S.2.1 k
def st_a (S : RSt) (a i : Nat) : Int32 := S.2.2.1 a i
def st_g (S : RSt) (a i : Nat) : Int64 := S.2.2.2 a i
def st_si (S : RSt) (k : Nat) (v : Int32) : RSt := (va_up S.1 k v, S.2)
def st_sj (S : RSt) (k : Nat) (v : Int64) : RSt := (S.1, va_up S.2.1 k v, S.2.2)
def st_sa (S : RSt) (a i : Nat) (v : Int32) : RSt := (S.1, S.2.1, va_up S.2.2.1 a (upd (S.2.2.1 a) i v), S.2.2.2)
def st_sg (S : RSt) (a i : Nat) (v : Int64) : RSt := (S.1, S.2.1, S.2.2.1, va_up S.2.2.2 a (vp_updL (S.2.2.2 a) i v))
def st_cp (S : RSt) (a b sp dp n : Nat) : RSt := (S.1, S.2.1, va_up S.2.2.1 b (va_cpy (S.2.2.1 a) (S.2.2.1 b) sp dp n), S.2.2.2)
-- answers that may be wanting: what the machine throws by itself, or fuel that is out, is 'none'
def ob_in {α : Type} (i : Int32) (n : Nat) (x : Option α) : Option α := if i < 0 ∨ n ≤ i.toNatClampNeg then none else x
def ob_nz {α : Type} (d : Int64) (x : Option α) : Option α := if d = 0 then none else x
def ob_le {α : Type} (a b : Nat) (x : Option α) : Option α := if a ≤ b then x else none
def ob_1 {α β : Type} (x : Option α) (k : α → Option β) : Option β := x.bind k
def ob_2 {α β γ : Type} (x : Option (α × β)) (k : α → β → Option γ) : Option γ := x.bind fun q => k q.1 q.2
theorem ob_in_s {α : Type} {i : Int32} {n : Nat} {x : Option α} {y : α} (h : ob_in i n x = some y) : vp_in i n ∧ x = some y := by
  unfold ob_in at h
  split at h
  · cases h
  · rename_i q
    exact ⟨q, h⟩
theorem ob_in_t {α : Type} {i : Int32} {n : Nat} {x : Option α} (h : vp_in i n) : ob_in i n x = x := if_neg h
theorem ob_nz_s {α : Type} {d : Int64} {x : Option α} {y : α} (h : ob_nz d x = some y) : ¬ d = 0 ∧ x = some y := by
  unfold ob_nz at h
  split at h
  · cases h
  · rename_i q
    exact ⟨q, h⟩
theorem ob_nz_t {α : Type} {d : Int64} {x : Option α} (h : ¬ d = 0) : ob_nz d x = x := if_neg h
theorem ob_le_s {α : Type} {a b : Nat} {x : Option α} {y : α} (h : ob_le a b x = some y) : a ≤ b ∧ x = some y := by
  unfold ob_le at h
  split at h
  · rename_i q
    exact ⟨q, h⟩
  · cases h
theorem ob_le_t {α : Type} {a b : Nat} {x : Option α} (h : a ≤ b) : ob_le a b x = x := if_pos h
theorem ob_1s {α β : Type} {x : Option α} {k : α → Option β} {y : β} (h : ob_1 x k = some y) : ∃ a, x = some a ∧ k a = some y := Option.bind_eq_some_iff.mp h
theorem ob_2s {α β γ : Type} {x : Option (α × β)} {k : α → β → Option γ} {y : γ} (h : ob_2 x k = some y) : ∃ a b, x = some (a, b) ∧ k a b = some y := by
  obtain ⟨⟨a, b⟩, h1, h2⟩ := Option.bind_eq_some_iff.mp h
  exact ⟨a, b, h1, h2⟩
theorem ob_1t {α β : Type} {x : Option α} {k : α → Option β} {a : α} (h : x = some a) : ob_1 x k = k a := by rw [h]; rfl
theorem ob_2t {α β γ : Type} {x : Option (α × β)} {k : α → β → Option γ} {a : α} {b : β} (h : x = some (a, b)) : ob_2 x k = k a b := by rw [h]; rfl
theorem ob_t {α : Type} {c : Prop} [Decidable c] {a b : Option α} {y : α} (hc : c) (h : (if c then a else b) = some y) : a = some y := by rw [if_pos hc] at h; exact h
theorem ob_f {α : Type} {c : Prop} [Decidable c] {a b : Option α} {y : α} (hc : ¬ c) (h : (if c then a else b) = some y) : b = some y := by rw [if_neg hc] at h; exact h
theorem ob_v {α : Type} {a y : α} (h : some a = some y) : a = y := Option.some.inj h
theorem ob_w {α β : Type} {a y : α} {b z : β} (h : some (a, b) = some (y, z)) : a = y ∧ b = z := by cases h; exact ⟨rfl, rfl⟩
abbrev ke_T : Type := (Nat → Prop) → State → Heap → Prop
/-- what a premise beside the world must bear -/
def km_E (E : ke_T) : Prop := (∀ (A : Nat → Prop) (u U : State) (H : Heap), u.vm = U.vm → E A u H → E A U H) ∧ (∀ (A : Nat → Prop) (s U : State) (H : Heap), s.WarmedH U.vm → E A s H → E A U H) ∧ (∀ (A : Nat → Prop) (U : State) (H H1 : Heap), (∀ a : Nat, a < H.size → ¬ A a → H1[a]? = H[a]?) → E A U H → E A U H1) ∧ ∀ (A B : Nat → Prop) (U : State) (H : Heap), (∀ q, B q → A q) → E A U H → E B U H
def ke_0 : ke_T := fun _ _ _ => True
theorem ke_0ok : km_E ke_0 := ⟨fun _ _ _ _ _ _ => trivial, fun _ _ _ _ _ _ => trivial, fun _ _ _ _ _ _ => trivial, fun _ _ _ _ _ _ => trivial⟩
def km_P (D : va_G) (tys : List (ClassId × FieldType)) (wd : RSt → va_W) (E : ke_T) (av : List Value) (S : RSt) (sz : Nat) : Array Value → State → Prop := va_Pc av (fun U => U.heap.size = sz ∧ va_P D vwCl (wd S) U.heap ∧ va_K D vwCl tys U ∧ va_D (fun _ => True) (wd S) ∧ E (va_A (wd S) sz) U U.heap)
def km_B (D : va_G) (tys : List (ClassId × FieldType)) (wd : RSt → va_W) (A : Nat → Prop) (S : RSt) (t : State) : Prop := va_P D vwCl (wd S) t.heap ∧ va_K D vwCl tys t ∧ va_D A (wd S)
theorem km_blind {D : va_G} {tys : List (ClassId × FieldType)} {wd : RSt → va_W} {E : ke_T} {av : List Value} {S : RSt} {sz : Nat} (hEE : km_E E) : FrameBlind (km_P D tys wd E av S sz) := by
  intro a U g mk q
  obtain ⟨q0, q1, qP, qK, qD, qE⟩ := q
  exact ⟨q0, q1, qP, va_K.moved (u := U) (U := U.calling g mk a) (Vm.Alike.refl U.vm) qK, qD, hEE.1 _ U _ _ rfl qE⟩
/-- what stands all along a method's body -/
def km_C (p : Program) (s : State) (m : MethodId) (args : Array Value) (meth : Method) (c : Code) (cc : ByteArray) (nL : Nat) (own : String) (Ts : List Cond) (ret : Option FieldType) (D : va_G) (tys : List (ClassId × FieldType)) (E : ke_T) (A : Nat → Prop) : Prop :=
  CallFix p m c cc nL s args Ts own ∧ meth.sig.returnType = ret ∧ meth.locks = false ∧ va_K D vwCl tys s ∧ (∀ q, s.heap.size ≤ q → A q) ∧ E A s s.heap ∧ km_E E
section KM
variable {p : Program} {l : Launch} {e : Env} {R : Room} {s : State} {m : MethodId} {args : Array Value} {below : List Frame} {meth : Method} {c : Code} {H : Heap} {locs : List Loc} {Q : State → Prop} {cc : ByteArray} {pc nL : Nat} {ls : Array Slot} {own : String} {Ts : List Cond} {ret : Option FieldType} {D : va_G} {tys : List (ClassId × FieldType)} {wd : RSt → va_W} {E : ke_T} {A : Nat → Prop} {av : List Value}
theorem km_free {S : RSt} (C : km_C p s m args meth c cc nL own Ts ret D tys E A) (hD : va_D A (wd S)) (hS : va_S A s.heap H locs) : ∀ q, va_A (wd S) H.size q → A q := by
  rintro q (⟨k, x, h⟩ | h)
  · exact hD.2 k _ h
  · exact C.2.2.2.2.1 q (Nat.le_trans hS.1 h)
theorem km_pre {S : RSt} (C : km_C p s m args meth c cc nL own Ts ret D tys E A) (hP : va_P D vwCl (wd S) H) (hD : va_D A (wd S)) (hS : va_S A s.heap H locs) : ∀ U : State, U.heap = H → s.WarmedH U.vm → km_P D tys wd E av S H.size av.toArray U := by
  intro U hU hW
  have hfree := km_free C hD hS
  obtain ⟨CF, hr, hlk, hK, hA, hE, hEE⟩ := C
  refine ⟨rfl, by rw [hU], by rw [hU]; exact hP, va_K.moved hW.alike hK, hD.weaken (fun _ _ _ _ => trivial), ?_⟩
  rw [hU]
  exact hEE.2.1 _ _ _ _ hW (hEE.2.2.2 _ _ _ _ hfree (hEE.2.2.1 _ _ _ _ hS.2.1 hE))
theorem va_aldA {cells slots : Nat} {cl : List vw_C} {ws : va_W} {a : Nat} {rest : List Value} (hexec : p.tables.exec = Jvm.exec) (hb : c.code = cc) (hK : va_K D cl tys s) (hP : va_P D cl ws H) (q0 t0 : Nat) {cA : ClassId} {ty : FieldType} {n : Nat} {f : Nat → Option Nat} (ha : ws[q0]? = some (a, .inl (cA, n, .inr (.inr (.inr (.inr f)))))) (ht : tys[t0]? = some (cA, .array ty)) {i : Int32} (hin : vp_in i n) (hdg : decode cc pc = .ok (.aaload, 1))
    (kk : W p l e R s m args below meth c H locs cells slots Q (F0 m (pc + 1) ls (va_rf (f i.toNatClampNeg) :: rest))) : W p l e R s m args below meth c H locs cells slots Q (F0 m pc ls (.int i :: .ref a :: rest)) := by
  have hlt : i.toNatClampNeg < n := Nat.not_le.mp fun q => hin (Or.inr q)
  exact W.aald (v := va_rf (f i.toNatClampNeg)) (ty := .array ty) hexec hb (hP q0 _ ha) ((hK.2 t0 _ ht).1 n (fun j => va_rf (f j))) rfl (fun q => by cases q) (by show ¬ (i < 0 ∨ (arrV _ _ _).slots.size ≤ _); rw [arrV_size]; exact hin) (by show (arrV _ _ _).slots[_]? = _; rw [arrV_read _ _ hlt]) rfl rfl hdg kk

end KM
theorem st_ps {D : va_G} {cl : List vw_C} {ws ws' : va_W} {H : Heap} (e : ws = ws') (h : va_P D cl ws H) : va_P D cl ws' H := e ▸ h
theorem st_ds {A : Nat → Prop} {ws ws' : va_W} (e : ws = ws') (h : va_D A ws) : va_D A ws' := e ▸ h
theorem vp_lt {i : Int32} {n : Nat} (h : vp_in i n) : i.toNatClampNeg < n := Nat.not_le.mp fun q => h (Or.inr q)
theorem vp_lt3 {i : Int32} (h : vp_in i 10) : 3 + i.toNatClampNeg < 13 := by have := vp_lt h; omega
theorem sw_ne {x k : Int32} {z : Int} (h : ¬ x = k) (hk : k.toInt = z) : x.toInt ≠ z := fun e => h (Int32.toInt_inj.mp (e.trans hk.symm))
theorem sw_no (x : Int32) : x.toInt = x.toInt := rfl
def ob_3 {α β γ ω : Type} (x : Option (α × β × γ)) (k : α → β → γ → Option ω) : Option ω := x.bind fun q => k q.1 q.2.1 q.2.2
theorem ob_3s {α β γ ω : Type} {x : Option (α × β × γ)} {k : α → β → γ → Option ω} {y : ω} (h : ob_3 x k = some y) : ∃ a0 a1 a2, x = some (a0, a1, a2) ∧ k a0 a1 a2 = some y := by
  obtain ⟨⟨a0, a1, a2⟩, h1, h2⟩ := Option.bind_eq_some_iff.mp h
  exact ⟨a0, a1, a2, h1, h2⟩
theorem ob_3t {α β γ ω : Type} {x : Option (α × β × γ)} {k : α → β → γ → Option ω} {a0 : α} { a1 : β} { a2 : γ} (h : x = some (a0, a1, a2)) : ob_3 x k = k a0 a1 a2 := by rw [h]; rfl
def ob_4 {α β γ δ ω : Type} (x : Option (α × β × γ × δ)) (k : α → β → γ → δ → Option ω) : Option ω := x.bind fun q => k q.1 q.2.1 q.2.2.1 q.2.2.2
theorem ob_4s {α β γ δ ω : Type} {x : Option (α × β × γ × δ)} {k : α → β → γ → δ → Option ω} {y : ω} (h : ob_4 x k = some y) : ∃ a0 a1 a2 a3, x = some (a0, a1, a2, a3) ∧ k a0 a1 a2 a3 = some y := by
  obtain ⟨⟨a0, a1, a2, a3⟩, h1, h2⟩ := Option.bind_eq_some_iff.mp h
  exact ⟨a0, a1, a2, a3, h1, h2⟩
theorem ob_4t {α β γ δ ω : Type} {x : Option (α × β × γ × δ)} {k : α → β → γ → δ → Option ω} {a0 : α} { a1 : β} { a2 : γ} { a3 : δ} (h : x = some (a0, a1, a2, a3)) : ob_4 x k = k a0 a1 a2 a3 := by rw [h]; rfl
def ob_5 {α β γ δ ε ω : Type} (x : Option (α × β × γ × δ × ε)) (k : α → β → γ → δ → ε → Option ω) : Option ω := x.bind fun q => k q.1 q.2.1 q.2.2.1 q.2.2.2.1 q.2.2.2.2
theorem ob_5s {α β γ δ ε ω : Type} {x : Option (α × β × γ × δ × ε)} {k : α → β → γ → δ → ε → Option ω} {y : ω} (h : ob_5 x k = some y) : ∃ a0 a1 a2 a3 a4, x = some (a0, a1, a2, a3, a4) ∧ k a0 a1 a2 a3 a4 = some y := by
  obtain ⟨⟨a0, a1, a2, a3, a4⟩, h1, h2⟩ := Option.bind_eq_some_iff.mp h
  exact ⟨a0, a1, a2, a3, a4, h1, h2⟩
theorem ob_5t {α β γ δ ε ω : Type} {x : Option (α × β × γ × δ × ε)} {k : α → β → γ → δ → ε → Option ω} {a0 : α} { a1 : β} { a2 : γ} { a3 : δ} { a4 : ε} (h : x = some (a0, a1, a2, a3, a4)) : ob_5 x k = k a0 a1 a2 a3 a4 := by rw [h]; rfl
def ob_6 {α β γ δ ε ζ ω : Type} (x : Option (α × β × γ × δ × ε × ζ)) (k : α → β → γ → δ → ε → ζ → Option ω) : Option ω := x.bind fun q => k q.1 q.2.1 q.2.2.1 q.2.2.2.1 q.2.2.2.2.1 q.2.2.2.2.2
theorem ob_6s {α β γ δ ε ζ ω : Type} {x : Option (α × β × γ × δ × ε × ζ)} {k : α → β → γ → δ → ε → ζ → Option ω} {y : ω} (h : ob_6 x k = some y) : ∃ a0 a1 a2 a3 a4 a5, x = some (a0, a1, a2, a3, a4, a5) ∧ k a0 a1 a2 a3 a4 a5 = some y := by
  obtain ⟨⟨a0, a1, a2, a3, a4, a5⟩, h1, h2⟩ := Option.bind_eq_some_iff.mp h
  exact ⟨a0, a1, a2, a3, a4, a5, h1, h2⟩
theorem ob_6t {α β γ δ ε ζ ω : Type} {x : Option (α × β × γ × δ × ε × ζ)} {k : α → β → γ → δ → ε → ζ → Option ω} {a0 : α} { a1 : β} { a2 : γ} { a3 : δ} { a4 : ε} { a5 : ζ} (h : x = some (a0, a1, a2, a3, a4, a5)) : ob_6 x k = k a0 a1 a2 a3 a4 a5 := by rw [h]; rfl
def ob_7 {α β γ δ ε ζ η ω : Type} (x : Option (α × β × γ × δ × ε × ζ × η)) (k : α → β → γ → δ → ε → ζ → η → Option ω) : Option ω := x.bind fun q => k q.1 q.2.1 q.2.2.1 q.2.2.2.1 q.2.2.2.2.1 q.2.2.2.2.2.1 q.2.2.2.2.2.2
theorem ob_7s {α β γ δ ε ζ η ω : Type} {x : Option (α × β × γ × δ × ε × ζ × η)} {k : α → β → γ → δ → ε → ζ → η → Option ω} {y : ω} (h : ob_7 x k = some y) : ∃ a0 a1 a2 a3 a4 a5 a6, x = some (a0, a1, a2, a3, a4, a5, a6) ∧ k a0 a1 a2 a3 a4 a5 a6 = some y := by
  obtain ⟨⟨a0, a1, a2, a3, a4, a5, a6⟩, h1, h2⟩ := Option.bind_eq_some_iff.mp h
  exact ⟨a0, a1, a2, a3, a4, a5, a6, h1, h2⟩
theorem ob_7t {α β γ δ ε ζ η ω : Type} {x : Option (α × β × γ × δ × ε × ζ × η)} {k : α → β → γ → δ → ε → ζ → η → Option ω} {a0 : α} { a1 : β} { a2 : γ} { a3 : δ} { a4 : ε} { a5 : ζ} { a6 : η} (h : x = some (a0, a1, a2, a3, a4, a5, a6)) : ob_7 x k = k a0 a1 a2 a3 a4 a5 a6 := by rw [h]; rfl
def ob_u2 {α β ω : Type} (k : α → β → Option ω) (q : α × β) : Option ω := k q.1 q.2
theorem ob_u2s {α β ω : Type} {k : α → β → Option ω} {a0 : α} { a1 : β} {y : ω} (h : ob_u2 k (a0, a1) = some y) : k a0 a1 = some y := h
def ob_u3 {α β γ ω : Type} (k : α → β → γ → Option ω) (q : α × β × γ) : Option ω := k q.1 q.2.1 q.2.2
theorem ob_u3s {α β γ ω : Type} {k : α → β → γ → Option ω} {a0 : α} { a1 : β} { a2 : γ} {y : ω} (h : ob_u3 k (a0, a1, a2) = some y) : k a0 a1 a2 = some y := h
def ob_u4 {α β γ δ ω : Type} (k : α → β → γ → δ → Option ω) (q : α × β × γ × δ) : Option ω := k q.1 q.2.1 q.2.2.1 q.2.2.2
theorem ob_u4s {α β γ δ ω : Type} {k : α → β → γ → δ → Option ω} {a0 : α} { a1 : β} { a2 : γ} { a3 : δ} {y : ω} (h : ob_u4 k (a0, a1, a2, a3) = some y) : k a0 a1 a2 a3 = some y := h
def ob_u5 {α β γ δ ε ω : Type} (k : α → β → γ → δ → ε → Option ω) (q : α × β × γ × δ × ε) : Option ω := k q.1 q.2.1 q.2.2.1 q.2.2.2.1 q.2.2.2.2
theorem ob_u5s {α β γ δ ε ω : Type} {k : α → β → γ → δ → ε → Option ω} {a0 : α} { a1 : β} { a2 : γ} { a3 : δ} { a4 : ε} {y : ω} (h : ob_u5 k (a0, a1, a2, a3, a4) = some y) : k a0 a1 a2 a3 a4 = some y := h
def ob_j {τ α : Type} (T : τ) (k : τ → Option α) : Option α := k T
theorem ob_js {τ α : Type} {T : τ} {k : τ → Option α} {y : α} (h : ob_j T k = some y) : ∃ t : τ, T = t ∧ k t = some y := ⟨T, rfl, h⟩
def ob_s2 {α β ω : Type} (E : α ⊕ β) (f : α → Option ω) (g : β → Option ω) : Option ω := match E with
  | .inl a => f a
  | .inr b => g b
def ob_s3 {α β γ ω : Type} (E : α ⊕ (β ⊕ γ)) (f : α → Option ω) (g : β → Option ω) (h : γ → Option ω) : Option ω := match E with
  | .inl a => f a
  | .inr (.inl b) => g b
  | .inr (.inr b) => h b
theorem ob_s2_0 {α β ω : Type} {a : α} {f : α → Option ω} {g : β → Option ω} {y : ω} (h : ob_s2 (.inl a) f g = some y) : f a = some y := h
theorem ob_s2_1 {α β ω : Type} {a : β} {f : α → Option ω} {g : β → Option ω} {y : ω} (h : ob_s2 (.inr a) f g = some y) : g a = some y := h
theorem ob_s3_0 {α β γ ω : Type} {a : α} {f : α → Option ω} {g : β → Option ω} {k : γ → Option ω} {y : ω} (h : ob_s3 (.inl a) f g k = some y) : f a = some y := h
theorem ob_s3_1 {α β γ ω : Type} {a : β} {f : α → Option ω} {g : β → Option ω} {k : γ → Option ω} {y : ω} (h : ob_s3 (.inr (.inl a)) f g k = some y) : g a = some y := h
theorem ob_s3_2 {α β γ ω : Type} {a : γ} {f : α → Option ω} {g : β → Option ω} {k : γ → Option ω} {y : ω} (h : ob_s3 (.inr (.inr a)) f g k = some y) : k a = some y := h
section KM2
variable {p : Program} {l : Launch} {e : Env} {R : Room} {s : State} {m : MethodId} {args : Array Value} {below : List Frame} {meth : Method} {c : Code} {H : Heap} {locs : List Loc} {Q : State → Prop} {cc : ByteArray} {pc nL : Nat} {ls : Array Slot} {own : String} {Ts : List Cond} {ret : Option FieldType} {D : va_G} {tys : List (ClassId × FieldType)} {wd : RSt → va_W} {E : ke_T} {A : Nat → Prop} {av : List Value}
/-- a contract over a world (answer: kind i) -/
def km_i (l : Launch) (D : va_G) (tys : List (ClassId × FieldType)) (wd : RSt → va_W) (E : ke_T) (y : MethodName) (ws : List Cond) (rm : Room) (av : List Value) (S : RSt) (r : Int32) (S' : RSt) : Prop :=
  ∀ sz : Nat, Met l y ws rm (km_P D tys wd E av S sz) (va_Qi (fun (r' : Int32) (u : RSt) => r' = r ∧ u = S') (km_B D tys wd (va_A (wd S) sz)) (va_A (wd S) sz)) 0 0 (va_A (wd S) sz)
def km_Qi (below : List Frame) (D : va_G) (tys : List (ClassId × FieldType)) (wd : RSt → va_W) (A : Nat → Prop) (args : Array Value) (s : State) (r : Int32) (S' : RSt) : State → Prop := MQ below (va_Qi (fun (r' : Int32) (u : RSt) => r' = r ∧ u = S') (km_B D tys wd A) A) args s 0 0 A
theorem km_i_in {y : MethodName} {ws ws' : List Cond} {rm : Room} {S : RSt} {r : Int32} {S' : RSt} (hEE : km_E E) (hy : plainName y.cls = true) (hw : ws = Cond.code y cc nL (some .int) :: ws') (hav : (lg_sl av).length ≤ nL)
    (body : ∀ (p : Program) (e : Env) (s : State) (m : MethodId) (below : List Frame) (meth : Method) (c : Code) (A : Nat → Prop) (H : Heap) (ls : Array Slot), km_C p s m av.toArray meth c cc nL y.cls ws (some .int) D tys E A → va_P D vwCl (wd S) H → va_D A (wd S) → va_S A s.heap H [] → lv_has ls nL (lv_args 0 av) →
      W p l e rm s m av.toArray below meth c H [] 0 0 (km_Qi below D tys wd A av.toArray s r S') (F0 m 0 ls [])) : km_i l D tys wd E y ws rm av S r S' := by
  intro sz
  refine Met.ofW (cc := cc) (maxL := nL) (ret := (some .int)) hy hw ?_
  intro p e s m args below meth c s₁ B hml hv
  obtain ⟨rfl, hsz, hP, hK, hD0, hE⟩ := hv
  have hts := atoms_spec (ws := ws) B.pre
  have hown : s.vm.findClass y.cls = some m.cls := findClass_of_methodNamed B.named
  subst hsz
  have hD := hD0.self (sz := s.heap.size)
  have hA : ∀ q : Nat, s.heap.size ≤ q → va_A (wd S) s.heap.size q := fun q h => Or.inr h
  have hl := lv_entry av (n := nL) hav
  rw [lg_entry_eq]
  generalize (lg_sl av ++ List.replicate (nL - (lg_sl av).length) Slot.unset).toArray = ls at hl ⊢
  exact body p e s m below meth c _ s.heap ls ⟨⟨B.exec, B.bytes, hml, hown, hts⟩, B.returns, B.notSynchronized, hK, hA, hE, hEE⟩ hP hD va_S.rf hl
theorem km_iret {r : Int32} {S' : RSt} (C : km_C p s m args meth c cc nL own Ts (some .int) D tys E A) (hP : va_P D vwCl (wd S') H) (hD : va_D A (wd S')) (hS : va_S A s.heap H locs) (hdg : decode cc pc = .ok (.ireturn, 1)) : W p l e R s m args below meth c H locs 0 0 (km_Qi below D tys wd A args s r S') (F0 m pc ls [.int r]) := by
  obtain ⟨⟨hx, hb, hml, hown, hts⟩, hr, hlk, hK, hA, hE, hEE⟩ := C
  exact W.iret (v := r) hx hb hr (fun t ht hW => ⟨⟨r, S', rfl, ⟨rfl, rfl⟩, by rw [ht]; exact hP, va_K.moved hW.alike hK, hD⟩, hS.F ht⟩) hS.2.2 hdg hlk
theorem km_cVi {S : RSt} {r : Int32} {S' : RSt} {y : MethodName} {ws : List Cond} {rm : Room} {As rest st : List Value} {b q0 ci : Nat} {fs : List Value} {q : vw_C} {CC : String} {index maxL n : Nat} {bytes : ByteArray} {rt : Option FieldType} (C : km_C p s m args meth c cc nL own Ts ret D tys E A) (hM : km_i l D tys wd E y ws rm (.ref b :: As) S r S') (cw : CallW R s args own CC index y bytes maxL rt ws rm 0 0 n) (he : (wd S)[q0]? = some (b, .inr (ci, fs))) (hc : vwCl[ci]? = some q) (hq : q.1 = CC) (hn : As.length = n) (hP : va_P D vwCl (wd S) H) (hD : va_D A (wd S)) (hS : va_S A s.heap H locs) (hls : ls.size = nL) (hst : st = As.reverse ++ .ref b :: rest) (hroom : (rest.map fun v => v.category).sum ≤ 8) (hdg : decode cc pc = .ok (.invokevirtual index, 3))
    (kk : ∀ (H1 : Heap) (locs1 : List Loc), va_P D vwCl (wd S') H1 → va_D A (wd S') → va_S A s.heap H1 locs1 → W p l e R s m args below meth c H1 locs1 0 0 Q (F0 m (pc + 3) ls (.int r :: rest))) : W p l e R s m args below meth c H locs 0 0 Q (F0 m pc ls st) := by
  have hfree := km_free C hD hS
  refine va_calli (va_runV (As := As) (rest := rest) C.1 (hM H.size) cw ⟨km_blind C.2.2.2.2.2.2, by rw [← hq]; exact va_recv C.2.2.2.1 hP hc he, km_pre C hP hD hS⟩ rfl hn hls hst (lv_room hroom) hdg ⟨Nat.zero_le _, Nat.zero_le _⟩) hS (fun q _ h => hfree q h) hfree (fun r' u t H1 locs1 ht hvm hw hB hz1 hk1 hS1 => ?_)
  obtain ⟨rfl, rfl⟩ := hw
  obtain ⟨hP1, hK1, hD1⟩ := hB
  rw [ht] at hP1
  exact kk H1 locs1 hP1 (hD1.weaken (fun _ _ _ h => hfree _ h)) hS1
theorem km_cSi {S : RSt} {r : Int32} {S' : RSt} {y : MethodName} {ws : List Cond} {rm : Room} {As rest st : List Value} {index maxL n : Nat} {bytes : ByteArray} {rt : Option FieldType} (C : km_C p s m args meth c cc nL own Ts ret D tys E A) (hM : km_i l D tys wd E y ws rm As S r S') (cw : CallB R s args own index y bytes maxL rt ws rm 0 0 n ∧ (Cond.static y).before args s = true) (hn : As.length = n) (hP : va_P D vwCl (wd S) H) (hD : va_D A (wd S)) (hS : va_S A s.heap H locs) (hls : ls.size = nL) (hst : st = As.reverse ++ rest) (hroom : (rest.map fun v => v.category).sum ≤ 8) (hdg : decode cc pc = .ok (.invokestatic index, 3))
    (kk : ∀ (H1 : Heap) (locs1 : List Loc), va_P D vwCl (wd S') H1 → va_D A (wd S') → va_S A s.heap H1 locs1 → W p l e R s m args below meth c H1 locs1 0 0 Q (F0 m (pc + 3) ls (.int r :: rest))) : W p l e R s m args below meth c H locs 0 0 Q (F0 m pc ls st) := by
  have hfree := km_free C hD hS
  refine va_calli (va_runS (As := As) (rest := rest) C.1 (hM H.size) cw ⟨km_blind C.2.2.2.2.2.2, km_pre C hP hD hS⟩ rfl hn hls hst (lv_room hroom) hdg ⟨Nat.zero_le _, Nat.zero_le _⟩) hS (fun q _ h => hfree q h) hfree (fun r' u t H1 locs1 ht hvm hw hB hz1 hk1 hS1 => ?_)
  obtain ⟨rfl, rfl⟩ := hw
  obtain ⟨hP1, hK1, hD1⟩ := hB
  rw [ht] at hP1
  exact kk H1 locs1 hP1 (hD1.weaken (fun _ _ _ h => hfree _ h)) hS1
/-- a contract over a world (answer: kind z) -/
def km_z (l : Launch) (D : va_G) (tys : List (ClassId × FieldType)) (wd : RSt → va_W) (E : ke_T) (y : MethodName) (ws : List Cond) (rm : Room) (av : List Value) (S : RSt) (r : Int32) (S' : RSt) : Prop :=
  ∀ sz : Nat, Met l y ws rm (km_P D tys wd E av S sz) (va_Qi (fun (r' : Int32) (u : RSt) => r' = r ∧ u = S' ∧ narrow .boolean (.int r') = .int r') (km_B D tys wd (va_A (wd S) sz)) (va_A (wd S) sz)) 0 0 (va_A (wd S) sz)
def km_Qz (below : List Frame) (D : va_G) (tys : List (ClassId × FieldType)) (wd : RSt → va_W) (A : Nat → Prop) (args : Array Value) (s : State) (r : Int32) (S' : RSt) : State → Prop := MQ below (va_Qi (fun (r' : Int32) (u : RSt) => r' = r ∧ u = S' ∧ narrow .boolean (.int r') = .int r') (km_B D tys wd A) A) args s 0 0 A
theorem km_z_in {y : MethodName} {ws ws' : List Cond} {rm : Room} {S : RSt} {r : Int32} {S' : RSt} (hEE : km_E E) (hy : plainName y.cls = true) (hw : ws = Cond.code y cc nL (some .boolean) :: ws') (hav : (lg_sl av).length ≤ nL)
    (body : ∀ (p : Program) (e : Env) (s : State) (m : MethodId) (below : List Frame) (meth : Method) (c : Code) (A : Nat → Prop) (H : Heap) (ls : Array Slot), km_C p s m av.toArray meth c cc nL y.cls ws (some .boolean) D tys E A → va_P D vwCl (wd S) H → va_D A (wd S) → va_S A s.heap H [] → lv_has ls nL (lv_args 0 av) →
      W p l e rm s m av.toArray below meth c H [] 0 0 (km_Qz below D tys wd A av.toArray s r S') (F0 m 0 ls [])) : km_z l D tys wd E y ws rm av S r S' := by
  intro sz
  refine Met.ofW (cc := cc) (maxL := nL) (ret := (some .boolean)) hy hw ?_
  intro p e s m args below meth c s₁ B hml hv
  obtain ⟨rfl, hsz, hP, hK, hD0, hE⟩ := hv
  have hts := atoms_spec (ws := ws) B.pre
  have hown : s.vm.findClass y.cls = some m.cls := findClass_of_methodNamed B.named
  subst hsz
  have hD := hD0.self (sz := s.heap.size)
  have hA : ∀ q : Nat, s.heap.size ≤ q → va_A (wd S) s.heap.size q := fun q h => Or.inr h
  have hl := lv_entry av (n := nL) hav
  rw [lg_entry_eq]
  generalize (lg_sl av ++ List.replicate (nL - (lg_sl av).length) Slot.unset).toArray = ls at hl ⊢
  exact body p e s m below meth c _ s.heap ls ⟨⟨B.exec, B.bytes, hml, hown, hts⟩, B.returns, B.notSynchronized, hK, hA, hE, hEE⟩ hP hD va_S.rf hl
theorem km_zret {r : Int32} {S' : RSt} (C : km_C p s m args meth c cc nL own Ts (some .boolean) D tys E A) (hn : narrow .boolean (.int r) = .int r) (hP : va_P D vwCl (wd S') H) (hD : va_D A (wd S')) (hS : va_S A s.heap H locs) (hdg : decode cc pc = .ok (.ireturn, 1)) : W p l e R s m args below meth c H locs 0 0 (km_Qz below D tys wd A args s r S') (F0 m pc ls [.int r]) := by
  obtain ⟨⟨hx, hb, hml, hown, hts⟩, hr, hlk, hK, hA, hE, hEE⟩ := C
  exact W.zret (v := r) hx hb hr hn (fun t ht hW => ⟨⟨r, S', rfl, ⟨rfl, rfl, hn⟩, by rw [ht]; exact hP, va_K.moved hW.alike hK, hD⟩, hS.F ht⟩) hS.2.2 hdg hlk
theorem km_cVz {S : RSt} {r : Int32} {S' : RSt} {y : MethodName} {ws : List Cond} {rm : Room} {As rest st : List Value} {b q0 ci : Nat} {fs : List Value} {q : vw_C} {CC : String} {index maxL n : Nat} {bytes : ByteArray} {rt : Option FieldType} (C : km_C p s m args meth c cc nL own Ts ret D tys E A) (hM : km_z l D tys wd E y ws rm (.ref b :: As) S r S') (cw : CallW R s args own CC index y bytes maxL rt ws rm 0 0 n) (he : (wd S)[q0]? = some (b, .inr (ci, fs))) (hc : vwCl[ci]? = some q) (hq : q.1 = CC) (hn : As.length = n) (hP : va_P D vwCl (wd S) H) (hD : va_D A (wd S)) (hS : va_S A s.heap H locs) (hls : ls.size = nL) (hst : st = As.reverse ++ .ref b :: rest) (hroom : (rest.map fun v => v.category).sum ≤ 8) (hdg : decode cc pc = .ok (.invokevirtual index, 3))
    (kk : ∀ (H1 : Heap) (locs1 : List Loc), va_P D vwCl (wd S') H1 → va_D A (wd S') → va_S A s.heap H1 locs1 → narrow .boolean (.int r) = .int r → W p l e R s m args below meth c H1 locs1 0 0 Q (F0 m (pc + 3) ls (.int r :: rest))) : W p l e R s m args below meth c H locs 0 0 Q (F0 m pc ls st) := by
  have hfree := km_free C hD hS
  refine va_calli (va_runV (As := As) (rest := rest) C.1 (hM H.size) cw ⟨km_blind C.2.2.2.2.2.2, by rw [← hq]; exact va_recv C.2.2.2.1 hP hc he, km_pre C hP hD hS⟩ rfl hn hls hst (lv_room hroom) hdg ⟨Nat.zero_le _, Nat.zero_le _⟩) hS (fun q _ h => hfree q h) hfree (fun r' u t H1 locs1 ht hvm hw hB hz1 hk1 hS1 => ?_)
  obtain ⟨rfl, rfl, hn⟩ := hw
  obtain ⟨hP1, hK1, hD1⟩ := hB
  rw [ht] at hP1
  exact kk H1 locs1 hP1 (hD1.weaken (fun _ _ _ h => hfree _ h)) hS1 hn
theorem km_cSz {S : RSt} {r : Int32} {S' : RSt} {y : MethodName} {ws : List Cond} {rm : Room} {As rest st : List Value} {index maxL n : Nat} {bytes : ByteArray} {rt : Option FieldType} (C : km_C p s m args meth c cc nL own Ts ret D tys E A) (hM : km_z l D tys wd E y ws rm As S r S') (cw : CallB R s args own index y bytes maxL rt ws rm 0 0 n ∧ (Cond.static y).before args s = true) (hn : As.length = n) (hP : va_P D vwCl (wd S) H) (hD : va_D A (wd S)) (hS : va_S A s.heap H locs) (hls : ls.size = nL) (hst : st = As.reverse ++ rest) (hroom : (rest.map fun v => v.category).sum ≤ 8) (hdg : decode cc pc = .ok (.invokestatic index, 3))
    (kk : ∀ (H1 : Heap) (locs1 : List Loc), va_P D vwCl (wd S') H1 → va_D A (wd S') → va_S A s.heap H1 locs1 → narrow .boolean (.int r) = .int r → W p l e R s m args below meth c H1 locs1 0 0 Q (F0 m (pc + 3) ls (.int r :: rest))) : W p l e R s m args below meth c H locs 0 0 Q (F0 m pc ls st) := by
  have hfree := km_free C hD hS
  refine va_calli (va_runS (As := As) (rest := rest) C.1 (hM H.size) cw ⟨km_blind C.2.2.2.2.2.2, km_pre C hP hD hS⟩ rfl hn hls hst (lv_room hroom) hdg ⟨Nat.zero_le _, Nat.zero_le _⟩) hS (fun q _ h => hfree q h) hfree (fun r' u t H1 locs1 ht hvm hw hB hz1 hk1 hS1 => ?_)
  obtain ⟨rfl, rfl, hn⟩ := hw
  obtain ⟨hP1, hK1, hD1⟩ := hB
  rw [ht] at hP1
  exact kk H1 locs1 hP1 (hD1.weaken (fun _ _ _ h => hfree _ h)) hS1 hn
/-- a contract over a world (answer: kind l) -/
def km_l (l : Launch) (D : va_G) (tys : List (ClassId × FieldType)) (wd : RSt → va_W) (E : ke_T) (y : MethodName) (ws : List Cond) (rm : Room) (av : List Value) (S : RSt) (r : Int64) (S' : RSt) : Prop :=
  ∀ sz : Nat, Met l y ws rm (km_P D tys wd E av S sz) (va_Ql (fun (r' : Int64) (u : RSt) => r' = r ∧ u = S') (km_B D tys wd (va_A (wd S) sz)) (va_A (wd S) sz)) 0 0 (va_A (wd S) sz)
def km_Ql (below : List Frame) (D : va_G) (tys : List (ClassId × FieldType)) (wd : RSt → va_W) (A : Nat → Prop) (args : Array Value) (s : State) (r : Int64) (S' : RSt) : State → Prop := MQ below (va_Ql (fun (r' : Int64) (u : RSt) => r' = r ∧ u = S') (km_B D tys wd A) A) args s 0 0 A
theorem km_l_in {y : MethodName} {ws ws' : List Cond} {rm : Room} {S : RSt} {r : Int64} {S' : RSt} (hEE : km_E E) (hy : plainName y.cls = true) (hw : ws = Cond.code y cc nL (some .long) :: ws') (hav : (lg_sl av).length ≤ nL)
    (body : ∀ (p : Program) (e : Env) (s : State) (m : MethodId) (below : List Frame) (meth : Method) (c : Code) (A : Nat → Prop) (H : Heap) (ls : Array Slot), km_C p s m av.toArray meth c cc nL y.cls ws (some .long) D tys E A → va_P D vwCl (wd S) H → va_D A (wd S) → va_S A s.heap H [] → lv_has ls nL (lv_args 0 av) →
      W p l e rm s m av.toArray below meth c H [] 0 0 (km_Ql below D tys wd A av.toArray s r S') (F0 m 0 ls [])) : km_l l D tys wd E y ws rm av S r S' := by
  intro sz
  refine Met.ofW (cc := cc) (maxL := nL) (ret := (some .long)) hy hw ?_
  intro p e s m args below meth c s₁ B hml hv
  obtain ⟨rfl, hsz, hP, hK, hD0, hE⟩ := hv
  have hts := atoms_spec (ws := ws) B.pre
  have hown : s.vm.findClass y.cls = some m.cls := findClass_of_methodNamed B.named
  subst hsz
  have hD := hD0.self (sz := s.heap.size)
  have hA : ∀ q : Nat, s.heap.size ≤ q → va_A (wd S) s.heap.size q := fun q h => Or.inr h
  have hl := lv_entry av (n := nL) hav
  rw [lg_entry_eq]
  generalize (lg_sl av ++ List.replicate (nL - (lg_sl av).length) Slot.unset).toArray = ls at hl ⊢
  exact body p e s m below meth c _ s.heap ls ⟨⟨B.exec, B.bytes, hml, hown, hts⟩, B.returns, B.notSynchronized, hK, hA, hE, hEE⟩ hP hD va_S.rf hl
theorem km_lret {r : Int64} {S' : RSt} (C : km_C p s m args meth c cc nL own Ts (some .long) D tys E A) (hP : va_P D vwCl (wd S') H) (hD : va_D A (wd S')) (hS : va_S A s.heap H locs) (hdg : decode cc pc = .ok (.lreturn, 1)) : W p l e R s m args below meth c H locs 0 0 (km_Ql below D tys wd A args s r S') (F0 m pc ls [.long r]) := by
  obtain ⟨⟨hx, hb, hml, hown, hts⟩, hr, hlk, hK, hA, hE, hEE⟩ := C
  exact W.lret (v := r) hx hb hr (fun t ht hW => ⟨⟨r, S', rfl, ⟨rfl, rfl⟩, by rw [ht]; exact hP, va_K.moved hW.alike hK, hD⟩, hS.F ht⟩) hS.2.2 hdg hlk
theorem km_cVl {S : RSt} {r : Int64} {S' : RSt} {y : MethodName} {ws : List Cond} {rm : Room} {As rest st : List Value} {b q0 ci : Nat} {fs : List Value} {q : vw_C} {CC : String} {index maxL n : Nat} {bytes : ByteArray} {rt : Option FieldType} (C : km_C p s m args meth c cc nL own Ts ret D tys E A) (hM : km_l l D tys wd E y ws rm (.ref b :: As) S r S') (cw : CallW R s args own CC index y bytes maxL rt ws rm 0 0 n) (he : (wd S)[q0]? = some (b, .inr (ci, fs))) (hc : vwCl[ci]? = some q) (hq : q.1 = CC) (hn : As.length = n) (hP : va_P D vwCl (wd S) H) (hD : va_D A (wd S)) (hS : va_S A s.heap H locs) (hls : ls.size = nL) (hst : st = As.reverse ++ .ref b :: rest) (hroom : (rest.map fun v => v.category).sum ≤ 8) (hdg : decode cc pc = .ok (.invokevirtual index, 3))
    (kk : ∀ (H1 : Heap) (locs1 : List Loc), va_P D vwCl (wd S') H1 → va_D A (wd S') → va_S A s.heap H1 locs1 → W p l e R s m args below meth c H1 locs1 0 0 Q (F0 m (pc + 3) ls (.long r :: rest))) : W p l e R s m args below meth c H locs 0 0 Q (F0 m pc ls st) := by
  have hfree := km_free C hD hS
  refine va_calll (va_runV (As := As) (rest := rest) C.1 (hM H.size) cw ⟨km_blind C.2.2.2.2.2.2, by rw [← hq]; exact va_recv C.2.2.2.1 hP hc he, km_pre C hP hD hS⟩ rfl hn hls hst (lv_room hroom) hdg ⟨Nat.zero_le _, Nat.zero_le _⟩) hS (fun q _ h => hfree q h) hfree (fun r' u t H1 locs1 ht hvm hw hB hz1 hk1 hS1 => ?_)
  obtain ⟨rfl, rfl⟩ := hw
  obtain ⟨hP1, hK1, hD1⟩ := hB
  rw [ht] at hP1
  exact kk H1 locs1 hP1 (hD1.weaken (fun _ _ _ h => hfree _ h)) hS1
theorem km_cSl {S : RSt} {r : Int64} {S' : RSt} {y : MethodName} {ws : List Cond} {rm : Room} {As rest st : List Value} {index maxL n : Nat} {bytes : ByteArray} {rt : Option FieldType} (C : km_C p s m args meth c cc nL own Ts ret D tys E A) (hM : km_l l D tys wd E y ws rm As S r S') (cw : CallB R s args own index y bytes maxL rt ws rm 0 0 n ∧ (Cond.static y).before args s = true) (hn : As.length = n) (hP : va_P D vwCl (wd S) H) (hD : va_D A (wd S)) (hS : va_S A s.heap H locs) (hls : ls.size = nL) (hst : st = As.reverse ++ rest) (hroom : (rest.map fun v => v.category).sum ≤ 8) (hdg : decode cc pc = .ok (.invokestatic index, 3))
    (kk : ∀ (H1 : Heap) (locs1 : List Loc), va_P D vwCl (wd S') H1 → va_D A (wd S') → va_S A s.heap H1 locs1 → W p l e R s m args below meth c H1 locs1 0 0 Q (F0 m (pc + 3) ls (.long r :: rest))) : W p l e R s m args below meth c H locs 0 0 Q (F0 m pc ls st) := by
  have hfree := km_free C hD hS
  refine va_calll (va_runS (As := As) (rest := rest) C.1 (hM H.size) cw ⟨km_blind C.2.2.2.2.2.2, km_pre C hP hD hS⟩ rfl hn hls hst (lv_room hroom) hdg ⟨Nat.zero_le _, Nat.zero_le _⟩) hS (fun q _ h => hfree q h) hfree (fun r' u t H1 locs1 ht hvm hw hB hz1 hk1 hS1 => ?_)
  obtain ⟨rfl, rfl⟩ := hw
  obtain ⟨hP1, hK1, hD1⟩ := hB
  rw [ht] at hP1
  exact kk H1 locs1 hP1 (hD1.weaken (fun _ _ _ h => hfree _ h)) hS1
/-- a contract over a world (answer: kind v) -/
def km_v (l : Launch) (D : va_G) (tys : List (ClassId × FieldType)) (wd : RSt → va_W) (E : ke_T) (y : MethodName) (ws : List Cond) (rm : Room) (av : List Value) (S : RSt) (S' : RSt) : Prop :=
  ∀ sz : Nat, Met l y ws rm (km_P D tys wd E av S sz) (va_Qv (fun (u : RSt) => u = S') (km_B D tys wd (va_A (wd S) sz)) (va_A (wd S) sz)) 0 0 (va_A (wd S) sz)
def km_Qv (below : List Frame) (D : va_G) (tys : List (ClassId × FieldType)) (wd : RSt → va_W) (A : Nat → Prop) (args : Array Value) (s : State) (S' : RSt) : State → Prop := MQ below (va_Qv (fun (u : RSt) => u = S') (km_B D tys wd A) A) args s 0 0 A
theorem km_v_in {y : MethodName} {ws ws' : List Cond} {rm : Room} {S : RSt} {S' : RSt} (hEE : km_E E) (hy : plainName y.cls = true) (hw : ws = Cond.code y cc nL none :: ws') (hav : (lg_sl av).length ≤ nL)
    (body : ∀ (p : Program) (e : Env) (s : State) (m : MethodId) (below : List Frame) (meth : Method) (c : Code) (A : Nat → Prop) (H : Heap) (ls : Array Slot), km_C p s m av.toArray meth c cc nL y.cls ws none D tys E A → va_P D vwCl (wd S) H → va_D A (wd S) → va_S A s.heap H [] → lv_has ls nL (lv_args 0 av) →
      W p l e rm s m av.toArray below meth c H [] 0 0 (km_Qv below D tys wd A av.toArray s S') (F0 m 0 ls [])) : km_v l D tys wd E y ws rm av S S' := by
  intro sz
  refine Met.ofW (cc := cc) (maxL := nL) (ret := none) hy hw ?_
  intro p e s m args below meth c s₁ B hml hv
  obtain ⟨rfl, hsz, hP, hK, hD0, hE⟩ := hv
  have hts := atoms_spec (ws := ws) B.pre
  have hown : s.vm.findClass y.cls = some m.cls := findClass_of_methodNamed B.named
  subst hsz
  have hD := hD0.self (sz := s.heap.size)
  have hA : ∀ q : Nat, s.heap.size ≤ q → va_A (wd S) s.heap.size q := fun q h => Or.inr h
  have hl := lv_entry av (n := nL) hav
  rw [lg_entry_eq]
  generalize (lg_sl av ++ List.replicate (nL - (lg_sl av).length) Slot.unset).toArray = ls at hl ⊢
  exact body p e s m below meth c _ s.heap ls ⟨⟨B.exec, B.bytes, hml, hown, hts⟩, B.returns, B.notSynchronized, hK, hA, hE, hEE⟩ hP hD va_S.rf hl
theorem km_vret {S' : RSt} (C : km_C p s m args meth c cc nL own Ts none D tys E A) (hP : va_P D vwCl (wd S') H) (hD : va_D A (wd S')) (hS : va_S A s.heap H locs) (hdg : decode cc pc = .ok (.return_, 1)) : W p l e R s m args below meth c H locs 0 0 (km_Qv below D tys wd A args s S') (F0 m pc ls []) := by
  obtain ⟨⟨hx, hb, hml, hown, hts⟩, hr, hlk, hK, hA, hE, hEE⟩ := C
  exact W.vret hx hb hr (fun t ht hW => ⟨⟨S', rfl, rfl, by rw [ht]; exact hP, va_K.moved hW.alike hK, hD⟩, hS.F ht⟩) hS.2.2 hdg hlk
theorem km_cVv {S : RSt} {S' : RSt} {y : MethodName} {ws : List Cond} {rm : Room} {As rest st : List Value} {b q0 ci : Nat} {fs : List Value} {q : vw_C} {CC : String} {index maxL n : Nat} {bytes : ByteArray} {rt : Option FieldType} (C : km_C p s m args meth c cc nL own Ts ret D tys E A) (hM : km_v l D tys wd E y ws rm (.ref b :: As) S S') (cw : CallW R s args own CC index y bytes maxL rt ws rm 0 0 n) (he : (wd S)[q0]? = some (b, .inr (ci, fs))) (hc : vwCl[ci]? = some q) (hq : q.1 = CC) (hn : As.length = n) (hP : va_P D vwCl (wd S) H) (hD : va_D A (wd S)) (hS : va_S A s.heap H locs) (hls : ls.size = nL) (hst : st = As.reverse ++ .ref b :: rest) (hroom : (rest.map fun v => v.category).sum ≤ 8) (hdg : decode cc pc = .ok (.invokevirtual index, 3))
    (kk : ∀ (H1 : Heap) (locs1 : List Loc), va_P D vwCl (wd S') H1 → va_D A (wd S') → va_S A s.heap H1 locs1 → W p l e R s m args below meth c H1 locs1 0 0 Q (F0 m (pc + 3) ls (rest))) : W p l e R s m args below meth c H locs 0 0 Q (F0 m pc ls st) := by
  have hfree := km_free C hD hS
  refine va_callv (va_runV (As := As) (rest := rest) C.1 (hM H.size) cw ⟨km_blind C.2.2.2.2.2.2, by rw [← hq]; exact va_recv C.2.2.2.1 hP hc he, km_pre C hP hD hS⟩ rfl hn hls hst (lv_room hroom) hdg ⟨Nat.zero_le _, Nat.zero_le _⟩) hS (fun q _ h => hfree q h) hfree (fun u t H1 locs1 ht hvm hw hB hz1 hk1 hS1 => ?_)
  obtain rfl := hw
  obtain ⟨hP1, hK1, hD1⟩ := hB
  rw [ht] at hP1
  exact kk H1 locs1 hP1 (hD1.weaken (fun _ _ _ h => hfree _ h)) hS1
theorem km_cSv {S : RSt} {S' : RSt} {y : MethodName} {ws : List Cond} {rm : Room} {As rest st : List Value} {index maxL n : Nat} {bytes : ByteArray} {rt : Option FieldType} (C : km_C p s m args meth c cc nL own Ts ret D tys E A) (hM : km_v l D tys wd E y ws rm As S S') (cw : CallB R s args own index y bytes maxL rt ws rm 0 0 n ∧ (Cond.static y).before args s = true) (hn : As.length = n) (hP : va_P D vwCl (wd S) H) (hD : va_D A (wd S)) (hS : va_S A s.heap H locs) (hls : ls.size = nL) (hst : st = As.reverse ++ rest) (hroom : (rest.map fun v => v.category).sum ≤ 8) (hdg : decode cc pc = .ok (.invokestatic index, 3))
    (kk : ∀ (H1 : Heap) (locs1 : List Loc), va_P D vwCl (wd S') H1 → va_D A (wd S') → va_S A s.heap H1 locs1 → W p l e R s m args below meth c H1 locs1 0 0 Q (F0 m (pc + 3) ls (rest))) : W p l e R s m args below meth c H locs 0 0 Q (F0 m pc ls st) := by
  have hfree := km_free C hD hS
  refine va_callv (va_runS (As := As) (rest := rest) C.1 (hM H.size) cw ⟨km_blind C.2.2.2.2.2.2, km_pre C hP hD hS⟩ rfl hn hls hst (lv_room hroom) hdg ⟨Nat.zero_le _, Nat.zero_le _⟩) hS (fun q _ h => hfree q h) hfree (fun u t H1 locs1 ht hvm hw hB hz1 hk1 hS1 => ?_)
  obtain rfl := hw
  obtain ⟨hP1, hK1, hD1⟩ := hB
  rw [ht] at hP1
  exact kk H1 locs1 hP1 (hD1.weaken (fun _ _ _ h => hfree _ h)) hS1
def km_r (l : Launch) (D : va_G) (tys : List (ClassId × FieldType)) (wd : RSt → va_W) (E : ke_T) (y : MethodName) (ws : List Cond) (rm : Room) (av : List Value) (S : RSt) (ra : Nat) (S' : RSt) : Prop :=
  ∀ sz : Nat, Met l y ws rm (km_P D tys wd E av S sz) (va_Qr (fun u : RSt => u = S') (fun u a t => a = ra ∧ km_B D tys wd (va_A (wd S) sz) u t) (va_A (wd S) sz)) 0 0 (va_A (wd S) sz)
def km_Qr (below : List Frame) (D : va_G) (tys : List (ClassId × FieldType)) (wd : RSt → va_W) (A : Nat → Prop) (args : Array Value) (s : State) (ra : Nat) (S' : RSt) : State → Prop := MQ below (va_Qr (fun u : RSt => u = S') (fun u a t => a = ra ∧ km_B D tys wd A u t) A) args s 0 0 A
theorem km_r_in {rn : String} {y : MethodName} {ws ws' : List Cond} {rm : Room} {S : RSt} {ra : Nat} {S' : RSt} (hEE : km_E E) (hy : plainName y.cls = true) (hw : ws = Cond.code y cc nL (some (.object rn)) :: ws') (hav : (lg_sl av).length ≤ nL)
    (body : ∀ (p : Program) (e : Env) (s : State) (m : MethodId) (below : List Frame) (meth : Method) (c : Code) (A : Nat → Prop) (H : Heap) (ls : Array Slot), km_C p s m av.toArray meth c cc nL y.cls ws (some (.object rn)) D tys E A → va_P D vwCl (wd S) H → va_D A (wd S) → va_S A s.heap H [] → lv_has ls nL (lv_args 0 av) →
      W p l e rm s m av.toArray below meth c H [] 0 0 (km_Qr below D tys wd A av.toArray s ra S') (F0 m 0 ls [])) : km_r l D tys wd E y ws rm av S ra S' := by
  intro sz
  refine Met.ofW (cc := cc) (maxL := nL) (ret := some (.object rn)) hy hw ?_
  intro p e s m args below meth c s₁ B hml hv
  obtain ⟨rfl, hsz, hP, hK, hD0, hE⟩ := hv
  have hts := atoms_spec (ws := ws) B.pre
  have hown : s.vm.findClass y.cls = some m.cls := findClass_of_methodNamed B.named
  subst hsz
  have hD := hD0.self (sz := s.heap.size)
  have hA : ∀ q : Nat, s.heap.size ≤ q → va_A (wd S) s.heap.size q := fun q h => Or.inr h
  have hl := lv_entry av (n := nL) hav
  rw [lg_entry_eq]
  generalize (lg_sl av ++ List.replicate (nL - (lg_sl av).length) Slot.unset).toArray = ls at hl ⊢
  exact body p e s m below meth c _ s.heap ls ⟨⟨B.exec, B.bytes, hml, hown, hts⟩, B.returns, B.notSynchronized, hK, hA, hE, hEE⟩ hP hD va_S.rf hl
theorem km_rret {rn : String} {ra a : Nat} {S' : RSt} (C : km_C p s m args meth c cc nL own Ts (some (.object rn)) D tys E A) (ha : a = ra) (hP : va_P D vwCl (wd S') H) (hD : va_D A (wd S')) (hS : va_S A s.heap H locs) (hdg : decode cc pc = .ok (.areturn, 1)) : W p l e R s m args below meth c H locs 0 0 (km_Qr below D tys wd A args s ra S') (F0 m pc ls [.ref a]) := by
  obtain ⟨⟨hx, hb, hml, hown, hts⟩, hr, hlk, hK, hA, hE, hEE⟩ := C
  exact W.aret (v := .ref a) hx hb hr (Or.inl ⟨_, rfl⟩) (Or.inr ⟨_, rfl⟩) (fun t ht hW => ⟨⟨S', a, rfl, rfl, ha, by rw [ht]; exact hP, va_K.moved hW.alike hK, hD⟩, hS.F ht⟩) hS.2.2 hdg hlk
theorem km_cVr {S : RSt} {ra : Nat} {S' : RSt} {y : MethodName} {ws : List Cond} {rm : Room} {As rest st : List Value} {b q0 ci : Nat} {fs : List Value} {q : vw_C} {CC : String} {index maxL n : Nat} {bytes : ByteArray} {rt : Option FieldType} (C : km_C p s m args meth c cc nL own Ts ret D tys E A) (hM : km_r l D tys wd E y ws rm (.ref b :: As) S ra S') (cw : CallW R s args own CC index y bytes maxL rt ws rm 0 0 n) (he : (wd S)[q0]? = some (b, .inr (ci, fs))) (hc : vwCl[ci]? = some q) (hq : q.1 = CC) (hn : As.length = n) (hP : va_P D vwCl (wd S) H) (hD : va_D A (wd S)) (hS : va_S A s.heap H locs) (hls : ls.size = nL) (hst : st = As.reverse ++ .ref b :: rest) (hroom : (rest.map fun v => v.category).sum ≤ 8) (hdg : decode cc pc = .ok (.invokevirtual index, 3))
    (kk : ∀ (H1 : Heap) (locs1 : List Loc), va_P D vwCl (wd S') H1 → va_D A (wd S') → va_S A s.heap H1 locs1 → W p l e R s m args below meth c H1 locs1 0 0 Q (F0 m (pc + 3) ls (.ref ra :: rest))) : W p l e R s m args below meth c H locs 0 0 Q (F0 m pc ls st) := by
  have hfree := km_free C hD hS
  refine va_callr (va_runV (As := As) (rest := rest) C.1 (hM H.size) cw ⟨km_blind C.2.2.2.2.2.2, by rw [← hq]; exact va_recv C.2.2.2.1 hP hc he, km_pre C hP hD hS⟩ rfl hn hls hst (lv_room hroom) hdg ⟨Nat.zero_le _, Nat.zero_le _⟩) hS (fun q _ h => hfree q h) hfree (fun u ra' t H1 locs1 ht hvm hw hB hz1 hk1 hS1 => ?_)
  obtain rfl := hw
  obtain ⟨rfl, hP1, hK1, hD1⟩ := hB
  rw [ht] at hP1
  exact kk H1 locs1 hP1 (hD1.weaken (fun _ _ _ h => hfree _ h)) hS1
end KM2
