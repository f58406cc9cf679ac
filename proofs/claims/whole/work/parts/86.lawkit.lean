/-! The law's three worlds beside each other: the landed object's, the reference's, the row for an answer; calls there. -/
theorem rg_k {n k a : Nat} {ad : Nat → Nat} (h : ((List.range n).map ad)[k]? = some a) : k < n ∧ a = ad k := by
  rw [List.getElem?_map] at h
  cases e : (List.range n)[k]? with
  | none => rw [e] at h; cases h
  | some j =>
    rw [e] at h
    have hk : k < n := by
      have := (List.getElem?_eq_some_iff.mp e).1
      rw [List.length_range] at this
      exact this
    have hj : j = k := by
      rw [List.getElem?_range hk] at e
      exact (Option.some.inj e).symm
    subst hj
    exact ⟨hk, (Option.some.inj h).symm⟩
section LK0
variable {cy : Nat → ClassId} {ad am : Nat → Nat} {ao : Nat} {S S' S1 S2 S1' S2' : RSt} {f f' : Nat → Int64} {A : Nat → Prop} {D : va_G} {H H1 : Heap}
theorem rw_fst : (rw_w cy ad S).map Prod.fst = (List.range 156).map ad := by
  unfold rw_w
  rw [List.map_map]
  rfl
theorem mw_fst : (mw_w cy am S).map Prod.fst = (List.range 15).map am := rfl
theorem rw_k {k : Nat} {x : Nat × va_E} (h : (rw_w cy ad S)[k]? = some x) : k < 156 ∧ x.1 = ad k := by
  refine rg_k ?_
  rw [← rw_fst (cy := cy) (S := S), List.getElem?_map, h]
  rfl
theorem mw_k {k : Nat} {x : Nat × va_E} (h : (mw_w cy am S)[k]? = some x) : k < 15 ∧ x.1 = am k := by
  refine rg_k ?_
  rw [← mw_fst (cy := cy) (S := S), List.getElem?_map, h]
  rfl
/-- the row for an answer -/
def ow_w (cy : Nat → ClassId) (ao : Nat) (f : Nat → Int64) : va_W := [(ao, .inl (cy 1, 1, .inr (.inl f)))]
theorem ow_k {k : Nat} {x : Nat × va_E} (h : (ow_w cy ao f)[k]? = some x) : k = 0 ∧ x.1 = ao := by
  have hk : k < 1 := (List.getElem?_eq_some_iff.mp h).1
  have hk : k = 0 := by omega
  subst hk
  cases h
  exact ⟨rfl, rfl⟩
theorem ow_D (h : A ao) : va_D A (ow_w cy ao f) := ⟨fun i j p q hp hq _ => (ow_k hp).1.trans (ow_k hq).1.symm, fun k q hq => by rw [(ow_k hq).2]; exact h⟩
theorem rw_D (h : va_D A (rw_w cy ad S)) : va_D A (rw_w cy ad S') := by
  have back : ∀ (k : Nat) (x : Nat × va_E), (rw_w cy ad S')[k]? = some x → ∃ y, (rw_w cy ad S)[k]? = some y ∧ y.1 = x.1 := by
    intro k x hx
    obtain ⟨h1, h2⟩ := rw_k hx
    exact ⟨_, rw_at h1, h2.symm⟩
  refine ⟨fun i j p q hp hq e => ?_, fun k q hq => ?_⟩
  · obtain ⟨p', h1, h2⟩ := back i p hp
    obtain ⟨q', h3, h4⟩ := back j q hq
    exact h.1 i j p' q' h1 h3 (by rw [h2, h4, e])
  · obtain ⟨q', h1, h2⟩ := back k q hq
    rw [← h2]
    exact h.2 k q' h1
def lk_d (ad am : Nat → Nat) (ao : Nat) : Prop := (∀ i j, i < 156 → j < 15 → ad i ≠ am j) ∧ (∀ i, i < 156 → ad i ≠ ao) ∧ ∀ j, j < 15 → am j ≠ ao
def lk_I (D : va_G) (cy : Nat → ClassId) (ad am : Nat → Nat) (ao : Nat) (A : Nat → Prop) (S1 S2 : RSt) (f : Nat → Int64) (H : Heap) : Prop :=
  (va_P D vwCl (rw_w cy ad S1) H ∧ va_D A (rw_w cy ad S1)) ∧ (va_P D vwCl (mw_w cy am S2) H ∧ va_D A (mw_w cy am S2)) ∧ (va_P D vwCl (ow_w cy ao f) H ∧ va_D A (ow_w cy ao f)) ∧ lk_d ad am ao
/-- cells of another world stay -/
theorem lk_kept {ws w2 : va_W} (hP : va_P D vwCl w2 H) (hd : ∀ (i j : Nat) (x y : Nat × va_E), ws[i]? = some x → w2[j]? = some y → x.1 ≠ y.1) (hk : ∀ q : Nat, q < H.size → ¬ va_A ws H.size q → H1[q]? = H[q]?) : va_P D vwCl w2 H1 :=
  hP.kept (fun k x hx => hk x.1 (hP k x hx).lt (fun z => by
    rcases z with ⟨i, e, h⟩ | h
    · exact hd i k _ _ h hx rfl
    · exact absurd (hP k x hx).lt (Nat.not_lt.mpr h)))
theorem lk_1 (J : lk_I D cy ad am ao A S1 S2 f H) (hP : va_P D vwCl (rw_w cy ad S1') H1) (hD : va_D A (rw_w cy ad S1')) (hk : ∀ q : Nat, q < H.size → ¬ va_A (rw_w cy ad S1) H.size q → H1[q]? = H[q]?) : lk_I D cy ad am ao A S1' S2 f H1 := by
  obtain ⟨⟨a1, a2⟩, ⟨b1, b2⟩, ⟨c1, c2⟩, d1, d2, d3⟩ := J
  refine ⟨⟨hP, hD⟩, ⟨lk_kept b1 (fun i j x y hx hy => ?_) hk, b2⟩, ⟨lk_kept c1 (fun i j x y hx hy => ?_) hk, c2⟩, d1, d2, d3⟩
  · obtain ⟨h1, h2⟩ := rw_k hx
    obtain ⟨h3, h4⟩ := mw_k hy
    rw [h2, h4]
    exact d1 i j h1 h3
  · obtain ⟨h1, h2⟩ := rw_k hx
    obtain ⟨h3, h4⟩ := ow_k hy
    rw [h2, h4]
    exact d2 i h1
theorem lk_2 (J : lk_I D cy ad am ao A S1 S2 f H) (hP : va_P D vwCl (mw_w cy am S2') H1) (hD : va_D A (mw_w cy am S2')) (hk : ∀ q : Nat, q < H.size → ¬ va_A (mw_w cy am S2) H.size q → H1[q]? = H[q]?) : lk_I D cy ad am ao A S1 S2' f H1 := by
  obtain ⟨⟨a1, a2⟩, ⟨b1, b2⟩, ⟨c1, c2⟩, d1, d2, d3⟩ := J
  refine ⟨⟨lk_kept a1 (fun i j x y hx hy => ?_) hk, a2⟩, ⟨hP, hD⟩, ⟨lk_kept c1 (fun i j x y hx hy => ?_) hk, c2⟩, d1, d2, d3⟩
  · obtain ⟨h1, h2⟩ := mw_k hx
    obtain ⟨h3, h4⟩ := rw_k hy
    rw [h2, h4]
    exact (d1 j i h3 h1).symm
  · obtain ⟨h1, h2⟩ := mw_k hx
    obtain ⟨h3, h4⟩ := ow_k hy
    rw [h2, h4]
    exact d3 i h1
end LK0
section LK
variable {p : Program} {l : Launch} {e : Env} {R : Room} {s : State} {m : MethodId} {args : Array Value} {below : List Frame} {meth : Method} {c : Code} {H : Heap} {locs : List Loc} {cells slots : Nat} {Q : State → Prop} {cc : ByteArray} {pc nL : Nat} {ls : Array Slot} {own : String} {Ts : List Cond} {ret : Option FieldType} {D : va_G} {tys : List (ClassId × FieldType)} {wd : RSt → va_W} {E : ke_T} {A : Nat → Prop}
variable {S S' : RSt} {y : MethodName} {ws : List Cond} {rm : Room} {As rest st : List Value} {b q0 ci : Nat} {fs : List Value} {q : vw_C} {CC : String} {index maxL n : Nat} {bytes : ByteArray} {rt : Option FieldType}
theorem lk_cVi {r : Int32} (C : km_C p s m args meth c cc nL own Ts ret D tys E A) (hM : km_i l D tys wd E y ws rm (.ref b :: As) S r S') (cw : CallW R s args own CC index y bytes maxL rt ws rm 0 0 n) (he : (wd S)[q0]? = some (b, .inr (ci, fs))) (hc : vwCl[ci]? = some q) (hq : q.1 = CC) (hn : As.length = n) (hP : va_P D vwCl (wd S) H) (hD : va_D A (wd S)) (hS : va_S A s.heap H locs) (hls : ls.size = nL) (hst : st = As.reverse ++ .ref b :: rest) (hroom : (rest.map fun v => v.category).sum ≤ 8) (hf : cells ≤ R.cells ∧ slots ≤ R.slots) (hdg : decode cc pc = .ok (.invokevirtual index, 3))
    (kk : ∀ (H1 : Heap) (locs1 : List Loc), va_P D vwCl (wd S') H1 → va_D A (wd S') → va_S A s.heap H1 locs1 → (∀ q : Nat, q < H.size → ¬ va_A (wd S) H.size q → H1[q]? = H[q]?) → W p l e R s m args below meth c H1 locs1 cells slots Q (F0 m (pc + 3) ls (.int r :: rest))) : W p l e R s m args below meth c H locs cells slots Q (F0 m pc ls st) := by
  have hfree := km_free C hD hS
  refine va_calli (va_runV (As := As) (rest := rest) C.1 (hM H.size) cw ⟨km_blind C.2.2.2.2.2.2, by rw [← hq]; exact va_recv C.2.2.2.1 hP hc he, km_pre C hP hD hS⟩ rfl hn hls hst (lv_room hroom) hdg hf) hS (fun q _ h => hfree q h) hfree (fun r' u t H1 locs1 ht hvm hw hB hz1 hk1 hS1 => ?_)
  obtain ⟨rfl, rfl⟩ := hw
  obtain ⟨hP1, hK1, hD1⟩ := hB
  rw [ht] at hP1
  exact kk H1 locs1 hP1 (hD1.weaken (fun _ _ _ h => hfree _ h)) hS1 hk1
theorem lc_i {cy : Nat → ClassId} {ad am : Nat → Nat} {ao : Nat} {S1 S1' S2 : RSt} {f : Nat → Int64} {r : Int32} (C : km_C p s m args meth c cc nL own Ts ret D (rw_t cy) E A) (J : lk_I D cy ad am ao A S1 S2 f H) (hM : km_i l D (rw_t cy) (rw_w cy ad) E y ws rm (.ref (ad 17) :: As) S1 r S1') (cw : CallW R s args own RX4 index y bytes maxL rt ws rm 0 0 n) (hn : As.length = n) (hS : va_S A s.heap H locs) (hls : ls.size = nL) (hst : st = As.reverse ++ .ref (ad 17) :: rest) (hroom : (rest.map fun v => v.category).sum ≤ 8) (hf : cells ≤ R.cells ∧ slots ≤ R.slots) (hdg : decode cc pc = .ok (.invokevirtual index, 3))
    (kk : ∀ (H1 : Heap) (locs1 : List Loc), lk_I D cy ad am ao A S1' S2 f H1 → va_S A s.heap H1 locs1 → W p l e R s m args below meth c H1 locs1 cells slots Q (F0 m (pc + 3) ls (.int r :: rest))) : W p l e R s m args below meth c H locs cells slots Q (F0 m pc ls st) :=
  lk_cVi C hM cw rw_Main rfl rfl hn J.1.1 J.1.2 hS hls hst hroom hf hdg (fun H1 locs1 h1 h2 h3 h4 => kk H1 locs1 (lk_1 J h1 h2 h4) h3)
theorem lm_i {cy : Nat → ClassId} {ad am : Nat → Nat} {ao : Nat} {S1 S2 S2' : RSt} {f : Nat → Int64} {r : Int32} (C : km_C p s m args meth c cc nL own Ts ret D (mw_t cy) E A) (J : lk_I D cy ad am ao A S1 S2 f H) (hM : km_i l D (mw_t cy) (mw_w cy am) E y ws rm (.ref (am 0) :: As) S2 r S2') (cw : CallW R s args own RX5 index y bytes maxL rt ws rm 0 0 n) (hn : As.length = n) (hS : va_S A s.heap H locs) (hls : ls.size = nL) (hst : st = As.reverse ++ .ref (am 0) :: rest) (hroom : (rest.map fun v => v.category).sum ≤ 8) (hf : cells ≤ R.cells ∧ slots ≤ R.slots) (hdg : decode cc pc = .ok (.invokevirtual index, 3))
    (kk : ∀ (H1 : Heap) (locs1 : List Loc), lk_I D cy ad am ao A S1 S2' f H1 → va_S A s.heap H1 locs1 → W p l e R s m args below meth c H1 locs1 cells slots Q (F0 m (pc + 3) ls (.int r :: rest))) : W p l e R s m args below meth c H locs cells slots Q (F0 m pc ls st) :=
  lk_cVi C hM cw mw_M rfl rfl hn J.2.1.1 J.2.1.2 hS hls hst hroom hf hdg (fun H1 locs1 h1 h2 h3 h4 => kk H1 locs1 (lk_2 J h1 h2 h4) h3)
theorem lk_cVz {r : Int32} (C : km_C p s m args meth c cc nL own Ts ret D tys E A) (hM : km_z l D tys wd E y ws rm (.ref b :: As) S r S') (cw : CallW R s args own CC index y bytes maxL rt ws rm 0 0 n) (he : (wd S)[q0]? = some (b, .inr (ci, fs))) (hc : vwCl[ci]? = some q) (hq : q.1 = CC) (hn : As.length = n) (hP : va_P D vwCl (wd S) H) (hD : va_D A (wd S)) (hS : va_S A s.heap H locs) (hls : ls.size = nL) (hst : st = As.reverse ++ .ref b :: rest) (hroom : (rest.map fun v => v.category).sum ≤ 8) (hf : cells ≤ R.cells ∧ slots ≤ R.slots) (hdg : decode cc pc = .ok (.invokevirtual index, 3))
    (kk : ∀ (H1 : Heap) (locs1 : List Loc), va_P D vwCl (wd S') H1 → va_D A (wd S') → va_S A s.heap H1 locs1 → (∀ q : Nat, q < H.size → ¬ va_A (wd S) H.size q → H1[q]? = H[q]?) → W p l e R s m args below meth c H1 locs1 cells slots Q (F0 m (pc + 3) ls (.int r :: rest))) : W p l e R s m args below meth c H locs cells slots Q (F0 m pc ls st) := by
  have hfree := km_free C hD hS
  refine va_calli (va_runV (As := As) (rest := rest) C.1 (hM H.size) cw ⟨km_blind C.2.2.2.2.2.2, by rw [← hq]; exact va_recv C.2.2.2.1 hP hc he, km_pre C hP hD hS⟩ rfl hn hls hst (lv_room hroom) hdg hf) hS (fun q _ h => hfree q h) hfree (fun r' u t H1 locs1 ht hvm hw hB hz1 hk1 hS1 => ?_)
  obtain ⟨rfl, rfl, hn9⟩ := hw
  obtain ⟨hP1, hK1, hD1⟩ := hB
  rw [ht] at hP1
  exact kk H1 locs1 hP1 (hD1.weaken (fun _ _ _ h => hfree _ h)) hS1 hk1
theorem lc_z {cy : Nat → ClassId} {ad am : Nat → Nat} {ao : Nat} {S1 S1' S2 : RSt} {f : Nat → Int64} {r : Int32} (C : km_C p s m args meth c cc nL own Ts ret D (rw_t cy) E A) (J : lk_I D cy ad am ao A S1 S2 f H) (hM : km_z l D (rw_t cy) (rw_w cy ad) E y ws rm (.ref (ad 17) :: As) S1 r S1') (cw : CallW R s args own RX4 index y bytes maxL rt ws rm 0 0 n) (hn : As.length = n) (hS : va_S A s.heap H locs) (hls : ls.size = nL) (hst : st = As.reverse ++ .ref (ad 17) :: rest) (hroom : (rest.map fun v => v.category).sum ≤ 8) (hf : cells ≤ R.cells ∧ slots ≤ R.slots) (hdg : decode cc pc = .ok (.invokevirtual index, 3))
    (kk : ∀ (H1 : Heap) (locs1 : List Loc), lk_I D cy ad am ao A S1' S2 f H1 → va_S A s.heap H1 locs1 → W p l e R s m args below meth c H1 locs1 cells slots Q (F0 m (pc + 3) ls (.int r :: rest))) : W p l e R s m args below meth c H locs cells slots Q (F0 m pc ls st) :=
  lk_cVz C hM cw rw_Main rfl rfl hn J.1.1 J.1.2 hS hls hst hroom hf hdg (fun H1 locs1 h1 h2 h3 h4 => kk H1 locs1 (lk_1 J h1 h2 h4) h3)
theorem lm_z {cy : Nat → ClassId} {ad am : Nat → Nat} {ao : Nat} {S1 S2 S2' : RSt} {f : Nat → Int64} {r : Int32} (C : km_C p s m args meth c cc nL own Ts ret D (mw_t cy) E A) (J : lk_I D cy ad am ao A S1 S2 f H) (hM : km_z l D (mw_t cy) (mw_w cy am) E y ws rm (.ref (am 0) :: As) S2 r S2') (cw : CallW R s args own RX5 index y bytes maxL rt ws rm 0 0 n) (hn : As.length = n) (hS : va_S A s.heap H locs) (hls : ls.size = nL) (hst : st = As.reverse ++ .ref (am 0) :: rest) (hroom : (rest.map fun v => v.category).sum ≤ 8) (hf : cells ≤ R.cells ∧ slots ≤ R.slots) (hdg : decode cc pc = .ok (.invokevirtual index, 3))
    (kk : ∀ (H1 : Heap) (locs1 : List Loc), lk_I D cy ad am ao A S1 S2' f H1 → va_S A s.heap H1 locs1 → W p l e R s m args below meth c H1 locs1 cells slots Q (F0 m (pc + 3) ls (.int r :: rest))) : W p l e R s m args below meth c H locs cells slots Q (F0 m pc ls st) :=
  lk_cVz C hM cw mw_M rfl rfl hn J.2.1.1 J.2.1.2 hS hls hst hroom hf hdg (fun H1 locs1 h1 h2 h3 h4 => kk H1 locs1 (lk_2 J h1 h2 h4) h3)
theorem lk_cVl {r : Int64} (C : km_C p s m args meth c cc nL own Ts ret D tys E A) (hM : km_l l D tys wd E y ws rm (.ref b :: As) S r S') (cw : CallW R s args own CC index y bytes maxL rt ws rm 0 0 n) (he : (wd S)[q0]? = some (b, .inr (ci, fs))) (hc : vwCl[ci]? = some q) (hq : q.1 = CC) (hn : As.length = n) (hP : va_P D vwCl (wd S) H) (hD : va_D A (wd S)) (hS : va_S A s.heap H locs) (hls : ls.size = nL) (hst : st = As.reverse ++ .ref b :: rest) (hroom : (rest.map fun v => v.category).sum ≤ 8) (hf : cells ≤ R.cells ∧ slots ≤ R.slots) (hdg : decode cc pc = .ok (.invokevirtual index, 3))
    (kk : ∀ (H1 : Heap) (locs1 : List Loc), va_P D vwCl (wd S') H1 → va_D A (wd S') → va_S A s.heap H1 locs1 → (∀ q : Nat, q < H.size → ¬ va_A (wd S) H.size q → H1[q]? = H[q]?) → W p l e R s m args below meth c H1 locs1 cells slots Q (F0 m (pc + 3) ls (.long r :: rest))) : W p l e R s m args below meth c H locs cells slots Q (F0 m pc ls st) := by
  have hfree := km_free C hD hS
  refine va_calll (va_runV (As := As) (rest := rest) C.1 (hM H.size) cw ⟨km_blind C.2.2.2.2.2.2, by rw [← hq]; exact va_recv C.2.2.2.1 hP hc he, km_pre C hP hD hS⟩ rfl hn hls hst (lv_room hroom) hdg hf) hS (fun q _ h => hfree q h) hfree (fun r' u t H1 locs1 ht hvm hw hB hz1 hk1 hS1 => ?_)
  obtain ⟨rfl, rfl⟩ := hw
  obtain ⟨hP1, hK1, hD1⟩ := hB
  rw [ht] at hP1
  exact kk H1 locs1 hP1 (hD1.weaken (fun _ _ _ h => hfree _ h)) hS1 hk1
theorem lc_l {cy : Nat → ClassId} {ad am : Nat → Nat} {ao : Nat} {S1 S1' S2 : RSt} {f : Nat → Int64} {r : Int64} (C : km_C p s m args meth c cc nL own Ts ret D (rw_t cy) E A) (J : lk_I D cy ad am ao A S1 S2 f H) (hM : km_l l D (rw_t cy) (rw_w cy ad) E y ws rm (.ref (ad 17) :: As) S1 r S1') (cw : CallW R s args own RX4 index y bytes maxL rt ws rm 0 0 n) (hn : As.length = n) (hS : va_S A s.heap H locs) (hls : ls.size = nL) (hst : st = As.reverse ++ .ref (ad 17) :: rest) (hroom : (rest.map fun v => v.category).sum ≤ 8) (hf : cells ≤ R.cells ∧ slots ≤ R.slots) (hdg : decode cc pc = .ok (.invokevirtual index, 3))
    (kk : ∀ (H1 : Heap) (locs1 : List Loc), lk_I D cy ad am ao A S1' S2 f H1 → va_S A s.heap H1 locs1 → W p l e R s m args below meth c H1 locs1 cells slots Q (F0 m (pc + 3) ls (.long r :: rest))) : W p l e R s m args below meth c H locs cells slots Q (F0 m pc ls st) :=
  lk_cVl C hM cw rw_Main rfl rfl hn J.1.1 J.1.2 hS hls hst hroom hf hdg (fun H1 locs1 h1 h2 h3 h4 => kk H1 locs1 (lk_1 J h1 h2 h4) h3)
theorem lm_l {cy : Nat → ClassId} {ad am : Nat → Nat} {ao : Nat} {S1 S2 S2' : RSt} {f : Nat → Int64} {r : Int64} (C : km_C p s m args meth c cc nL own Ts ret D (mw_t cy) E A) (J : lk_I D cy ad am ao A S1 S2 f H) (hM : km_l l D (mw_t cy) (mw_w cy am) E y ws rm (.ref (am 0) :: As) S2 r S2') (cw : CallW R s args own RX5 index y bytes maxL rt ws rm 0 0 n) (hn : As.length = n) (hS : va_S A s.heap H locs) (hls : ls.size = nL) (hst : st = As.reverse ++ .ref (am 0) :: rest) (hroom : (rest.map fun v => v.category).sum ≤ 8) (hf : cells ≤ R.cells ∧ slots ≤ R.slots) (hdg : decode cc pc = .ok (.invokevirtual index, 3))
    (kk : ∀ (H1 : Heap) (locs1 : List Loc), lk_I D cy ad am ao A S1 S2' f H1 → va_S A s.heap H1 locs1 → W p l e R s m args below meth c H1 locs1 cells slots Q (F0 m (pc + 3) ls (.long r :: rest))) : W p l e R s m args below meth c H locs cells slots Q (F0 m pc ls st) :=
  lk_cVl C hM cw mw_M rfl rfl hn J.2.1.1 J.2.1.2 hS hls hst hroom hf hdg (fun H1 locs1 h1 h2 h3 h4 => kk H1 locs1 (lk_2 J h1 h2 h4) h3)
theorem lk_xi {r : Option Int32} (C : km_C p s m args meth c cc nL own Ts ret D tys E A) (hM : kx_i l D tys wd E y ws rm (.ref b :: As) S r S') (cw : CallW R s args own CC index y bytes maxL rt ws rm 1 6 n) (he : (wd S)[q0]? = some (b, .inr (ci, fs))) (hc : vwCl[ci]? = some q) (hq : q.1 = CC) (hn : As.length = n) (hP : va_P D vwCl (wd S) H) (hD : va_D A (wd S)) (hS : va_S A s.heap H locs) (hls : ls.size = nL) (hst : st = As.reverse ++ .ref b :: rest) (hroom : (rest.map fun v => v.category).sum ≤ 8) (hf : cells + 1 ≤ R.cells ∧ slots + 6 ≤ R.slots) (hdg : decode cc pc = .ok (.invokevirtual index, 3))
    (kx : r = none → ∀ (ce : Cell) (q9 : Addr) (H1 : Heap) (locs1 : List Loc), va_P D vwCl (wd S') H1 → va_D A (wd S') → va_S A s.heap H1 locs1 → (∀ q : Nat, q < H.size → ¬ va_A (wd S) H.size q → H1[q]? = H[q]?) → H1[q9]? = some ce → ce.vm = .none → s.vm.findClass nse_n = some ce.cls → vx_W p l e R s m args below meth c H1 locs1 (cells + 1) (slots + 6) Q (F0 m pc ls rest) q9)
    (kk : ∀ r' : Int32, r = some r' → ∀ (H1 : Heap) (locs1 : List Loc), va_P D vwCl (wd S') H1 → va_D A (wd S') → va_S A s.heap H1 locs1 → (∀ q : Nat, q < H.size → ¬ va_A (wd S) H.size q → H1[q]? = H[q]?) → W p l e R s m args below meth c H1 locs1 (cells + 1) (slots + 6) Q (F0 m (pc + 3) ls (.int r' :: rest))) : W p l e R s m args below meth c H locs cells slots Q (F0 m pc ls st) := by
  have hfree := km_free C hD hS
  refine vx_calli (vx_runV (As := As) (rest := rest) C.1 (hM H.size) cw ⟨km_blind C.2.2.2.2.2.2, by rw [← hq]; exact va_recv C.2.2.2.1 hP hc he, km_pre C hP hD hS⟩ rfl hn hls hst (lv_room hroom) hdg hf) hS (fun q _ h => hfree q h) hfree (fun q _ h => hfree q h) (fun X ce q9 u t H1 locs1 ht hvm hw hB hz1 hk1 hS1 hc1 hv1 hf1 => ?_) (fun r' u t H1 locs1 ht hvm hw hB hz1 hk1 hS1 => ?_)
  · obtain ⟨hr, rfl⟩ := hw
    obtain ⟨rfl, hP1, hK1, hD1⟩ := hB
    rw [ht] at hP1
    exact kx hr ce q9 H1 locs1 hP1 (hD1.weaken (fun _ _ _ h => hfree _ h)) hS1 hk1 hc1 hv1 hf1
  · obtain ⟨hr, rfl⟩ := hw
    obtain ⟨hP1, hK1, hD1⟩ := hB
    rw [ht] at hP1
    exact kk r' hr H1 locs1 hP1 (hD1.weaken (fun _ _ _ h => hfree _ h)) hS1 hk1
theorem lk_xl {r : Option Int64} (C : km_C p s m args meth c cc nL own Ts ret D tys E A) (hM : kx_l l D tys wd E y ws rm (.ref b :: As) S r S') (cw : CallW R s args own CC index y bytes maxL rt ws rm 1 6 n) (he : (wd S)[q0]? = some (b, .inr (ci, fs))) (hc : vwCl[ci]? = some q) (hq : q.1 = CC) (hn : As.length = n) (hP : va_P D vwCl (wd S) H) (hD : va_D A (wd S)) (hS : va_S A s.heap H locs) (hls : ls.size = nL) (hst : st = As.reverse ++ .ref b :: rest) (hroom : (rest.map fun v => v.category).sum ≤ 8) (hf : cells + 1 ≤ R.cells ∧ slots + 6 ≤ R.slots) (hdg : decode cc pc = .ok (.invokevirtual index, 3))
    (kx : r = none → ∀ (ce : Cell) (q9 : Addr) (H1 : Heap) (locs1 : List Loc), va_P D vwCl (wd S') H1 → va_D A (wd S') → va_S A s.heap H1 locs1 → (∀ q : Nat, q < H.size → ¬ va_A (wd S) H.size q → H1[q]? = H[q]?) → H1[q9]? = some ce → ce.vm = .none → s.vm.findClass nse_n = some ce.cls → vx_W p l e R s m args below meth c H1 locs1 (cells + 1) (slots + 6) Q (F0 m pc ls rest) q9)
    (kk : ∀ r' : Int64, r = some r' → ∀ (H1 : Heap) (locs1 : List Loc), va_P D vwCl (wd S') H1 → va_D A (wd S') → va_S A s.heap H1 locs1 → (∀ q : Nat, q < H.size → ¬ va_A (wd S) H.size q → H1[q]? = H[q]?) → W p l e R s m args below meth c H1 locs1 (cells + 1) (slots + 6) Q (F0 m (pc + 3) ls (.long r' :: rest))) : W p l e R s m args below meth c H locs cells slots Q (F0 m pc ls st) := by
  have hfree := km_free C hD hS
  refine vx_calll (vx_runV (As := As) (rest := rest) C.1 (hM H.size) cw ⟨km_blind C.2.2.2.2.2.2, by rw [← hq]; exact va_recv C.2.2.2.1 hP hc he, km_pre C hP hD hS⟩ rfl hn hls hst (lv_room hroom) hdg hf) hS (fun q _ h => hfree q h) hfree (fun q _ h => hfree q h) (fun X ce q9 u t H1 locs1 ht hvm hw hB hz1 hk1 hS1 hc1 hv1 hf1 => ?_) (fun r' u t H1 locs1 ht hvm hw hB hz1 hk1 hS1 => ?_)
  · obtain ⟨hr, rfl⟩ := hw
    obtain ⟨rfl, hP1, hK1, hD1⟩ := hB
    rw [ht] at hP1
    exact kx hr ce q9 H1 locs1 hP1 (hD1.weaken (fun _ _ _ h => hfree _ h)) hS1 hk1 hc1 hv1 hf1
  · obtain ⟨hr, rfl⟩ := hw
    obtain ⟨hP1, hK1, hD1⟩ := hB
    rw [ht] at hP1
    exact kk r' hr H1 locs1 hP1 (hD1.weaken (fun _ _ _ h => hfree _ h)) hS1 hk1
end LK
theorem vi_01 : vp_in 0 1 := vp_in_nI (n := 0) (by decide) (by decide)
section LKA
variable {p : Program} {l : Launch} {e : Env} {R : Room} {s : State} {m : MethodId} {args : Array Value} {below : List Frame} {meth : Method} {c : Code} {H : Heap} {locs : List Loc} {cells slots : Nat} {Q : State → Prop} {cc : ByteArray} {pc : Nat} {ls : Array Slot} {A : Nat → Prop} {rest : List Value}
/-- script[i + k] -/
theorem lk_arg (hx : p.tables.exec = Jvm.exec) (hb : c.code = cc) {b L : Nat} {xs : Nat → Int32} (hX : va_X b L xs s s.heap) (hbl : b < s.heap.size) (hbA : ¬ A b) (hS : va_S A s.heap H locs) {x4 : Int32} {k : Int} {v : Int32} {lv : List (Nat × Value)} {nL i0 i4 : Nat} (hl : lv_has ls nL lv) (h0 : lv[i0]? = some (0, .ref b)) (h4 : lv[i4]? = some (4, .int x4)) (hv : Int32.ofInt k = v) (hin : vp_in (x4 + v) L)
    (d0 : decode cc pc = .ok (.aload_n 0, 1)) (d1 : decode cc (pc + 1) = .ok (.iload 4, 2)) (d3 : decode cc (pc + 3) = .ok (.iconst k, 1)) (d4 : decode cc (pc + 4) = .ok (.iadd, 1)) (d5 : decode cc (pc + 5) = .ok (.iaload, 1))
    (kk : W p l e R s m args below meth c H locs cells slots Q (F0 m (pc + 6) ls (.int (xs (x4 + v).toNatClampNeg) :: rest))) : W p l e R s m args below meth c H locs cells slots Q (F0 m pc ls rest) := by
  refine lv_aload_n hx hb d0 rfl (lv_at hl i0 h0) ?_
  refine lv_iload hx hb d1 (lv_at hl i4 h4) ?_
  refine lv_iconst (v := v) hx hb d3 hv ?_
  refine lv_iadd hx hb d4 ?_
  exact va_sld hx hb hX hbl hbA hS hin d5 kk
/-- x != 0 as 0 or 1 -/
theorem lk_bool (hx : p.tables.exec = Jvm.exec) (hb : c.code = cc) {x : Int32} (d0 : decode cc pc = .ok (.ifCond .eq 7, 3)) (d3 : decode cc (pc + 3) = .ok (.iconst 1, 1)) (d4 : decode cc (pc + 4) = .ok (.goto 4, 3)) (d7 : decode cc (pc + 7) = .ok (.iconst 0, 1))
    (kk : W p l e R s m args below meth c H locs cells slots Q (F0 m (pc + 8) ls (.int (if x = 0 then 0 else 1) :: rest))) : W p l e R s m args below meth c H locs cells slots Q (F0 m pc ls (.int x :: rest)) := by
  refine lv_if_eq (tgt := pc + 7) hx hb d0 (by omega) (fun c_1 => ?_) (fun c_1 => ?_)
  · rw [if_pos c_1] at kk
    exact lv_iconst (v := 0) hx hb d7 (by decide) kk
  · rw [if_neg c_1] at kk
    refine lv_iconst (v := 1) hx hb d3 (by decide) ?_
    exact lv_goto (tgt := pc + 8) hx hb d4 (by omega) kk
/-- the answer's row is written; another world stays -/
theorem lk_last {D : va_G} {cy : Nat → ClassId} {ao : Nat} {f : Nat → Int64} {w2 : va_W} (hx : p.tables.exec = Jvm.exec) (hb : c.code = cc) (hK : va_K D vwCl (rw_t cy) s) (hP : va_P D vwCl w2 H) (hD : va_D A w2) (hO : va_P D vwCl (ow_w cy ao f) H) (hao : A ao) (hdj : ∀ (k : Nat) (x : Nat × va_E), w2[k]? = some x → x.1 ≠ ao) (hS : va_S A s.heap H locs) {x : Int64} (hdg : decode cc pc = .ok (.lastore, 1))
    (kk : ∀ (H1 : Heap) (locs1 : List Loc), va_P D vwCl w2 H1 → va_P D vwCl (ow_w cy ao (vp_updL f 0 x)) H1 → va_S A s.heap H1 locs1 → W p l e R s m args below meth c H1 locs1 cells slots Q (F0 m (pc + 1) ls rest)) : W p l e R s m args below meth c H locs cells slots Q (F0 m pc ls (.long x :: .int 0 :: .ref ao :: rest)) := by
  have hPc : va_P D vwCl (ow_w cy ao f ++ w2) H := va_P.app hO hP
  have hDc : va_D A (ow_w cy ao f ++ w2) := va_D.app (ow_D hao) hD (fun i j x y hx hy hxy => hdj j y hy (hxy.symm.trans (ow_k hx).2))
  refine va_last (x := x) hx hb hK hPc hDc hS 0 1 rfl rfl vi_01 hdg (fun H1 locs1 h1 h2 h3 => ?_)
  have h1 : va_P D vwCl (ow_w cy ao (vp_updL f 0 x) ++ w2) H1 := h1
  refine kk H1 locs1 (fun k q hq => h1 (k + 1) q hq) (fun k q hq => ?_) h3
  have hk := (ow_k hq).1
  subst hk
  exact h1 0 q hq
end LKA
