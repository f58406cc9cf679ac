/-! The law from its entry, and the claim. -/
set_option maxHeartbeats 4000000 in
set_option maxRecDepth 100000 in
theorem whole_start {p : Program} {e : Env} {s : State} {m : MethodId} {below : List Frame} {meth : Method} {c : Code} (l : Launch) (hflags : l.flags = flags0) {b L : Nat} {xs : Nat → Int32} (hL : L ≤ 3072) (C0 : lw_At p s m meth c b L xs) : W p l e room_1 s m #[Value.ref b] below meth c s.heap [] 0 0 (lw_Z below #[Value.ref b] s) (entryFrame m ([Value.ref b] : List Value).toArray 8) := by
  obtain ⟨hx, hb, hr, hml, hown0, hts0, hX, hbl, hlocks, hgv⟩ := id C0
  have hown : s.vm.findClass RL = some m.cls := hown0
  have hst : l.stackTraces = false := by
    unfold Launch.stackTraces
    rw [hflags]
    decide +kernel
  have hts : ∀ w ∈ wsL_law, w.before #[Value.ref b] s = true := fun w h => hts0 w (wsL_law_in w h)
  obtain ⟨kn, kv, hE⟩ := lw_env hts0 hgv
  have hmk : mk_E s := ⟨va_AO.of (hts0 (.arrayOver (.object RX0)) (by decide +kernel)), va_AOA.of (hts0 (.arrayOver (.array .int)) (by decide +kernel)), va_AOA.of (hts0 (.arrayOver (.array .long)) (by decide +kernel))⟩
  obtain ⟨d0, s0, k0⟩ := u_known (C := RX0) (T := TX0) (N := 5) (n := 5) hts0 wl_wsX00 (hts0 (.instantiable RX0 5) (by decide +kernel))
  obtain ⟨d1, s1, k1⟩ := u_known (C := RX1) (T := TX1) (N := 8) (n := 8) hts0 wl_wsX10 (hts0 (.instantiable RX1 8) (by decide +kernel))
  obtain ⟨d2, s2, k2⟩ := u_known (C := RX2) (T := TX2) (N := 3) (n := 3) hts0 wl_wsX20 (hts0 (.instantiable RX2 3) (by decide +kernel))
  obtain ⟨d3, s3, k3⟩ := u_known (C := RX3) (T := TX3) (N := 11) (n := 11) hts0 wl_wsX30 (hts0 (.instantiable RX3 11) (by decide +kernel))
  obtain ⟨d4, s4, k4⟩ := u_known (C := RX4) (T := TX4) (N := 7) (n := 7) hts0 wl_wsX40 (hts0 (.instantiable RX4 7) (by decide +kernel))
  obtain ⟨d5, s5, k5⟩ := u_known (C := RX5) (T := TX5) (N := 31) (n := 31) hts0 wl_wsX50 (hts0 (.instantiable RX5 31) (by decide +kernel))
  obtain ⟨D, hKc⟩ : ∃ D : va_G, ∀ (k : Nat) (q : vw_C), vwCl[k]? = some q → u_Kn s q.1 q.2.1 q.2.2 (D.1 k) (D.2 k) := by
    refine ⟨(fun k => if k = 0 then d0 else if k = 1 then d1 else if k = 2 then d2 else if k = 3 then d3 else if k = 4 then d4 else d5, fun k => if k = 0 then s0 else if k = 1 then s1 else if k = 2 then s2 else if k = 3 then s3 else if k = 4 then s4 else s5), ?_⟩
    intro k q hq
    match k, hq with
    | 0, hq => cases hq; exact k0
    | 1, hq => cases hq; exact k1
    | 2, hq => cases hq; exact k2
    | 3, hq => cases hq; exact k3
    | 4, hq => cases hq; exact k4
    | 5, hq => cases hq; exact k5
    | k + 6, hq => simp [vwCl] at hq
  obtain ⟨a0, r0⟩ := ra_c (U := s) (ty := .int) (hts0 (.arrayClass .int) (by decide +kernel)) (fun _ h => h)
  obtain ⟨a1, r1⟩ := ra_c (U := s) (ty := .long) (hts0 (.arrayClass .long) (by decide +kernel)) (fun _ h => h)
  obtain ⟨a2, r2⟩ := ra_c (U := s) (ty := .byte) (hts0 (.arrayClass .byte) (by decide +kernel)) (fun _ h => h)
  obtain ⟨a3, r3⟩ := ra_o hmk.1
  obtain ⟨a4, r4⟩ := ra_a hmk.2.1
  obtain ⟨a5, r5⟩ := ra_a hmk.2.2
  obtain ⟨cy, hK⟩ : ∃ cy : Nat → ClassId, va_K D vwCl (rw_t cy) s := by
    refine ⟨fun k => if k = 0 then a0 else if k = 1 then a1 else if k = 2 then a2 else if k = 3 then a3 else if k = 4 then a4 else a5, hKc, ?_⟩
    intro k q hq
    match k, hq with
    | 0, hq => cases hq; exact r0
    | 1, hq => cases hq; exact r1
    | 2, hq => cases hq; exact r2
    | 3, hq => cases hq; exact r3
    | 4, hq => cases hq; exact r4
    | 5, hq => cases hq; exact r5
    | k + 6, hq => simp at hq
  have hA : ∀ q : Nat, s.heap.size ≤ q → (fun q : Nat => s.heap.size ≤ q) q := fun _ h => h
  have hbA : ¬ (fun q : Nat => s.heap.size ≤ q) b := Nat.not_le.mpr hbl
  have C1 : km_C p s m #[Value.ref b] meth c code 8 RL wsL_law ret D (rw_t cy) (ke_R kn kv) (fun q : Nat => s.heap.size ≤ q) := ⟨⟨hx, hb, hml, hown, hts⟩, hr, hlocks, hK, hA, hE, ke_Rok kn kv⟩
  have C2 : km_C p s m #[Value.ref b] meth c code 8 RL wsL_law ret D (mw_t cy) ke_0 (fun q : Nat => s.heap.size ≤ q) := ⟨⟨hx, hb, hml, hown, hts⟩, hr, hlocks, hK.sub [0, 1] rfl, hA, trivial, ke_0ok⟩
  have G : lw_H p l s m b L xs meth c D cy kn kv (fun q : Nat => s.heap.size ≤ q) := ⟨C1, C2, hX, hbl, hbA, hst⟩
  have hS : va_S (fun q : Nat => s.heap.size ≤ q) s.heap s.heap [] := va_S.rf
  have hP : va_P D vwCl [] s.heap := fun k q h => by simp at h
  have hD : va_D (fun q : Nat => s.heap.size ≤ q) [] := ⟨fun i j p q h => by simp at h, fun k q h => by simp at h⟩
  have hl := lv_entry ([.ref b]) (n := 8) (Nat.le_of_ble_eq_true rfl)
  rw [lg_entry_eq]
  generalize (lg_sl ([.ref b]) ++ List.replicate (8 - (lg_sl ([.ref b])).length) Slot.unset).toArray = ls at hl ⊢
  have hl : lv_has ls 8 [(0, .ref b)] := hl
  refine va_new (ci := 4) (fs := [.null, .null, .null, .null, .null, .int 0, .null]) (C := RX4) (T := TX4) (N := 7) hx hb hts0 wl_wsX40 tyX4 tyX4_ok hown (hts0 (.classLink RL 8 RX4) (by decide +kernel)) (hts0 (.instantiable RX4 7) (by decide +kernel)) (hts0 (.initialized RX4) (by decide +kernel)) hK hP hD hS hA rfl (by decide) (Nat.le_of_ble_eq_true rfl) (Nat.le_of_ble_eq_true rfl) dL_law_0 (fun q0 H hP hD hS => ?_)
  have hP : va_P D vwCl [(q0, .inr (4, [.null, .null, .null, .null, .null, .int 0, .null]))] H := hP
  have hD : va_D (fun q : Nat => s.heap.size ≤ q) [(q0, .inr (4, [.null, .null, .null, .null, .null, .int 0, .null]))] := hD
  refine W.widen (k := 1) (n := 7) (Nat.le_of_ble_eq_true rfl) (Nat.le_of_ble_eq_true rfl) ?_
  refine lv_dup hx hb dL_law_3 rfl ?_
  have hFc := va_free (wc := [(q0, .inr (4, [.null, .null, .null, .null, .null, .int 0, .null]))]) hD hS hA [0] rfl
  refine va_callv (va_runI (As := []) (rest := [.ref q0]) ⟨hx, hb, hml, hown, hts⟩ (kX4_init l D cy q0 H.size) (cwI 0 hts gL_law_X4_init rfl rfl rfl (hts0 (.initialized RX4) (by decide +kernel)) (hts0 (.methodLink RL 30 yX4_init) (by decide +kernel)) (hts0 (.instanceMethod yX4_init) (by decide +kernel)) rfl (by decide +kernel) ⟨Nat.le_of_ble_eq_true rfl, Nat.le_of_ble_eq_true rfl⟩) ⟨mk_blind, fun U hU hW => ⟨rfl, by rw [hU], by rw [hU]; exact hP, va_K.moved hW.alike hK, hD.weaken (fun _ _ _ _ => trivial), hmk.moved hW.alike⟩⟩ rfl rfl hl.1 rfl (lv_room (Nat.le_of_ble_eq_true rfl)) dL_law_4 ⟨Nat.le_of_ble_eq_true rfl, Nat.le_of_ble_eq_true rfl⟩) hS (fun q _ h => hFc q h) hFc (fun ad t H1 locs ht hvm hw hB hz1 hk1 hS => ?_)
  obtain ⟨hP1, hK1, hD1⟩ := hB
  rw [ht] at hP1
  have hDr := hD1.weaken (B := fun q : Nat => s.heap.size ≤ q) (fun _ _ _ h => hFc _ h)
  clear hD1 hK1 hFc hP hD hk1 hz1 ht hvm
  subst hw
  refine W.widen (k := 156) (n := 2204) (Nat.le_of_ble_eq_true rfl) (Nat.le_of_ble_eq_true rfl) ?_
  refine lv_astore_n (lv' := [(1, .ref (ad 17)), (0, .ref b)]) hx hb dL_law_7 rfl hl (by decide) rfl (fun ls hl => ?_)
  refine va_new (ci := 5) (fs := [.int 0, .null, .int 0, .int 0, .int 0, .int 0, .int 0, .int 0, .int 0, .int 0, .long 0, .null, .null, .null, .int 0, .int 0, .int 0, .int 0, .null, .null, .null, .null, .null, .int 0, .null, .null, .null, .null, .null, .int 0, .long 0]) (C := RX5) (T := TX5) (N := 31) hx hb hts0 wl_wsX50 tyX5 tyX5_ok hown (hts0 (.classLink RL 31 RX5) (by decide +kernel)) (hts0 (.instantiable RX5 31) (by decide +kernel)) (hts0 (.initialized RX5) (by decide +kernel)) hK hP1 hDr hS hA rfl (by decide) (Nat.le_of_ble_eq_true rfl) (Nat.le_of_ble_eq_true rfl) dL_law_8 (fun q1 H hP hD hS => ?_)
  refine W.widen (k := 157) (n := 2235) (Nat.le_of_ble_eq_true rfl) (Nat.le_of_ble_eq_true rfl) ?_
  refine lv_dup hx hb dL_law_11 rfl ?_
  have hlen : (rw_w cy ad S00).length = 156 := by
    unfold rw_w
    rw [List.length_map, List.length_range]
  have hlast : (rw_w cy ad S00 ++ [(q1, .inr (5, [.int 0, .null, .int 0, .int 0, .int 0, .int 0, .int 0, .int 0, .int 0, .int 0, .long 0, .null, .null, .null, .int 0, .int 0, .int 0, .int 0, .null, .null, .null, .null, .null, .int 0, .null, .null, .null, .null, .null, .int 0, .long 0]))])[156]? = some (q1, .inr (5, [.int 0, .null, .int 0, .int 0, .int 0, .int 0, .int 0, .int 0, .int 0, .int 0, .long 0, .null, .null, .null, .int 0, .int 0, .int 0, .int 0, .null, .null, .null, .null, .null, .int 0, .null, .null, .null, .null, .null, .int 0, .long 0])) := by
    rw [List.getElem?_append_right (by omega), hlen]
    rfl
  have hleft : ∀ (k : Nat) (x : Nat × va_E), (rw_w cy ad S00)[k]? = some x → (rw_w cy ad S00 ++ [(q1, .inr (5, [.int 0, .null, .int 0, .int 0, .int 0, .int 0, .int 0, .int 0, .int 0, .int 0, .long 0, .null, .null, .null, .int 0, .int 0, .int 0, .int 0, .null, .null, .null, .null, .null, .int 0, .null, .null, .null, .null, .null, .int 0, .long 0]))])[k]? = some x := fun k x hx9 => by
    rw [List.getElem?_append_left (List.getElem?_eq_some_iff.mp hx9).1]
    exact hx9
  have hPa : va_P D vwCl (rw_w cy ad S00) H := fun k x hx9 => hP k x (hleft k x hx9)
  have hne : ∀ i, i < 156 → ad i ≠ q1 := fun i hi z => by
    have := hD.1 i 156 _ _ (hleft i _ (rw_at hi)) hlast z
    omega
  have hPc : va_P D vwCl [(q1, .inr (5, [.int 0, .null, .int 0, .int 0, .int 0, .int 0, .int 0, .int 0, .int 0, .int 0, .long 0, .null, .null, .null, .int 0, .int 0, .int 0, .int 0, .null, .null, .null, .null, .null, .int 0, .null, .null, .null, .null, .null, .int 0, .long 0]))] H := fun k x hx9 => by
    have hk : k < 1 := (List.getElem?_eq_some_iff.mp hx9).1
    have hk : k = 0 := by omega
    subst hk
    cases hx9
    exact hP 156 _ hlast
  have hDc : va_D (fun q : Nat => s.heap.size ≤ q) [(q1, .inr (5, [.int 0, .null, .int 0, .int 0, .int 0, .int 0, .int 0, .int 0, .int 0, .int 0, .long 0, .null, .null, .null, .int 0, .int 0, .int 0, .int 0, .null, .null, .null, .null, .null, .int 0, .null, .null, .null, .null, .null, .int 0, .long 0]))] := ⟨fun i j p q h1 h2 _ => by
    have h3 : i < 1 := (List.getElem?_eq_some_iff.mp h1).1
    have h4 : j < 1 := (List.getElem?_eq_some_iff.mp h2).1
    omega, fun k x hx9 => by
    have hk : k < 1 := (List.getElem?_eq_some_iff.mp hx9).1
    have hk : k = 0 := by omega
    subst hk
    cases hx9
    exact hD.2 156 _ hlast⟩
  have hFc := va_free (wc := [(q1, .inr (5, [.int 0, .null, .int 0, .int 0, .int 0, .int 0, .int 0, .int 0, .int 0, .int 0, .long 0, .null, .null, .null, .int 0, .int 0, .int 0, .int 0, .null, .null, .null, .null, .null, .int 0, .null, .null, .null, .null, .null, .int 0, .long 0]))]) hDc hS hA [0] rfl
  refine va_callv (va_runI (As := []) (rest := [.ref q1]) ⟨hx, hb, hml, hown, hts⟩ (kX5_init l D cy q1 H.size) (cwI 0 hts gL_law_X5_init rfl rfl rfl (hts0 (.initialized RX5) (by decide +kernel)) (hts0 (.methodLink RL 33 yX5_init) (by decide +kernel)) (hts0 (.instanceMethod yX5_init) (by decide +kernel)) rfl (by decide +kernel) ⟨Nat.le_of_ble_eq_true rfl, Nat.le_of_ble_eq_true rfl⟩) ⟨mk_blind, fun U hU hW => ⟨rfl, by rw [hU], by rw [hU]; exact hPc, va_K.moved hW.alike hK, hDc.weaken (fun _ _ _ _ => trivial), hmk.moved hW.alike⟩⟩ rfl rfl hl.1 rfl (lv_room (Nat.le_of_ble_eq_true rfl)) dL_law_12 ⟨Nat.le_of_ble_eq_true rfl, Nat.le_of_ble_eq_true rfl⟩) hS (fun q _ h => hFc q h) hFc (fun am t H1 locs ht hvm hw hB hz1 hk1 hS => ?_)
  obtain ⟨hP2, hK2, hD2⟩ := hB
  rw [ht] at hP2
  have hPr : va_P D vwCl (rw_w cy ad S00) H1 := lk_kept hPa (fun i j x y hx9 hy9 => by
    have hi : i < 1 := (List.getElem?_eq_some_iff.mp hx9).1
    have hi : i = 0 := by omega
    subst hi
    cases hx9
    obtain ⟨h1, h2⟩ := rw_k hy9
    rw [h2]
    exact (hne j h1).symm) hk1
  have hdj : ∀ i j, i < 156 → j < 15 → ad i ≠ am j := fun i j hi hj z => by
    have h1 := hD2.2 j _ (show (mw_w cy am Sm)[j]? = some ((mw_w cy am Sm)[j]'hj) from List.getElem?_eq_getElem hj)
    have h2 : ((mw_w cy am Sm)[j]'hj).1 = am j := (mw_k (List.getElem?_eq_getElem hj)).2
    rw [h2, ← z] at h1
    rcases h1 with ⟨k9, e9, h1⟩ | h1
    · have hk9 : k9 < 1 := (List.getElem?_eq_some_iff.mp h1).1
      have hk9 : k9 = 0 := by omega
      subst hk9
      cases h1
      exact hne i hi rfl
    · exact absurd (hPa i _ (rw_at hi)).lt (Nat.not_lt.mpr h1)
  have hDm := hD2.weaken (B := fun q : Nat => s.heap.size ≤ q) (fun _ _ _ h => hFc _ h)
  clear hD2 hK2 hFc hP hD hk1 hz1 ht hvm hPc hDc hPa hlast hleft hlen hP1
  subst hw
  refine W.widen (k := 171) (n := 3841) (Nat.le_of_ble_eq_true rfl) (Nat.le_of_ble_eq_true rfl) ?_
  refine lv_astore_n (lv' := [(2, .ref (am 0)), (1, .ref (ad 17)), (0, .ref b)]) hx hb dL_law_15 rfl hl (by decide) rfl (fun ls hl => ?_)
  refine lv_iconst (v := 1) hx hb dL_law_16 (by decide) ?_
  have hPj : va_P D vwCl (rw_w cy ad S00 ++ mw_w cy am Sm) H1 := va_P.app hPr hP2
  have hDj : va_D (fun q : Nat => s.heap.size ≤ q) (rw_w cy ad S00 ++ mw_w cy am Sm) := va_D.app hDr hDm (fun i j x y hx9 hy9 hxy => by
    obtain ⟨h1, h2⟩ := rw_k hx9
    obtain ⟨h3, h4⟩ := mw_k hy9
    exact hdj i j h1 h3 (h2.symm.trans (hxy.trans h4)))
  refine va_newa (atype := .long) (ty := .long) (n := 1) (N' := 1) (a0 := (1, .inr (.inl (fun _ => 0)))) hx hb (hts0 (.arrayClass .long) (by decide +kernel)) rfl hK hPj hDj hS hA (fun _ => rfl) (by decide) (by decide) (Nat.le_of_ble_eq_true rfl) (Nat.le_of_ble_eq_true rfl) (Nat.le_of_ble_eq_true rfl) dL_law_17 (fun ao cA H hK9 hP hD hS => ?_)
  obtain rfl : cA = cy 1 := va_K_one hK9 1 rfl
  clear hK9
  have hlen : (rw_w cy ad S00).length = 156 := by
    unfold rw_w
    rw [List.length_map, List.length_range]
  have hlen2 : (rw_w cy ad S00 ++ mw_w cy am Sm).length = 171 := by
    rw [List.length_append, hlen]
    rfl
  have hl1 : ∀ (k : Nat) (x : Nat × va_E), (rw_w cy ad S00)[k]? = some x → (rw_w cy ad S00 ++ mw_w cy am Sm ++ [(ao, .inl (cy 1, 1, .inr (.inl (fun _ => 0))))])[k]? = some x := fun k x hx9 => by
    have := (List.getElem?_eq_some_iff.mp hx9).1
    rw [List.getElem?_append_left (by omega), List.getElem?_append_left this]
    exact hx9
  have hl2 : ∀ (k : Nat) (x : Nat × va_E), (mw_w cy am Sm)[k]? = some x → (rw_w cy ad S00 ++ mw_w cy am Sm ++ [(ao, .inl (cy 1, 1, .inr (.inl (fun _ => 0))))])[156 + k]? = some x := fun k x hx9 => by
    have h9 : k < 15 := (mw_k hx9).1
    rw [List.getElem?_append_left (by omega), List.getElem?_append_right (by omega), hlen, Nat.add_sub_cancel_left]
    exact hx9
  have hl3 : (rw_w cy ad S00 ++ mw_w cy am Sm ++ [(ao, .inl (cy 1, 1, .inr (.inl (fun _ => 0))))])[171]? = some (ao, .inl (cy 1, 1, .inr (.inl (fun _ => 0)))) := by
    rw [List.getElem?_append_right (by omega), hlen2]
    rfl
  have J : lk_I D cy ad am ao (fun q : Nat => s.heap.size ≤ q) S00 Sm (fun _ => 0) H := by
    refine ⟨⟨fun k x hx9 => hP k x (hl1 k x hx9), hDr⟩, ⟨fun k x hx9 => hP _ x (hl2 k x hx9), hDm⟩, ⟨fun k x hx9 => ?_, ow_D (hD.2 171 _ hl3)⟩, hdj, fun i hi z => ?_, fun j hj z => ?_⟩
    · have hk := (ow_k hx9).1
      subst hk
      cases hx9
      exact hP 171 _ hl3
    · have := hD.1 i 171 _ _ (hl1 i _ (rw_at hi)) hl3 z
      omega
    · have h2 : ((mw_w cy am Sm)[j]'hj).1 = am j := (mw_k (List.getElem?_eq_getElem hj)).2
      have := hD.1 (156 + j) 171 _ _ (hl2 j _ (List.getElem?_eq_getElem hj)) hl3 (h2.trans z)
      omega
  refine W.widen (k := 172) (n := 3842) (Nat.le_of_ble_eq_true rfl) (Nat.le_of_ble_eq_true rfl) ?_
  refine lv_astore_n (lv' := [(3, .ref ao), (2, .ref (am 0)), (1, .ref (ad 17)), (0, .ref b)]) hx hb dL_law_19 rfl hl (by decide) rfl (fun ls hl => ?_)
  refine lv_iconst (v := 0) hx hb dL_law_20 (by decide) ?_
  refine lv_istore (lv' := [(4, .int 0), (3, .ref ao), (2, .ref (am 0)), (1, .ref (ad 17)), (0, .ref b)]) hx hb dL_law_21 hl (by decide) rfl (fun ls hl => ?_)
  exact lw_loop G hL (L + 1) 0 S00 Sm _ _ H _ ls (Nat.zero_le L) (by omega) J_new J hS (lv_sub hl [4, 3, 2, 1, 0] rfl)
