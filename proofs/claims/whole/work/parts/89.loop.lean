/-! The law's loop. -/
def R_law : String := "RepeatIndexLaw"
def lw_P (b : Addr) (xs : List Int32) (args : Array Value) (s : State) : Prop := args = #[.ref b] ∧ s.IntsAt b xs ∧ xs.length ≤ 3072 ∧ (Jvm.Cond.and given_1 narrow_1).before args s = true
def lw_Q (_ : Array Value) (s : State) (o : Outcome) (t : State) : Prop := o = .returned (some (.int 1)) ∧ Framed s o t [] 601024 7293033
def lw_Z (below : List Frame) (a : Array Value) (s : State) : State → Prop := fun t => ∃ o, t.status = .running ∧ Ended t below o ∧ lw_Q a s o t
/-- the law's own end, with 1 on the stack, nothing written that was there before, its room as the claim has it -/
theorem lw_ret {p : Program} {l : Launch} {e : Env} {s : State} {m : MethodId} {below : List Frame} {meth : Method} {c : Code} {b : Nat} (hx : p.tables.exec = Jvm.exec) (hb : c.code = code) (hr : meth.sig.returnType = ret) (hlocks : meth.locks = false) {pc : Nat} {H : Heap} {ls : Array Slot} (hdg : decode code pc = .ok (.ireturn, 1)) : W p l e room_1 s m #[Value.ref b] below meth c H [] 601024 7293033 (lw_Z below #[Value.ref b] s) (F0 m pc ls [.int 1]) := by
  intro T hT X
  obtain ⟨fs, hret, hrun, hended, hW, hframe⟩ := X.leave (v := some (.int 1)) (hlocks := hlocks) (fun h => by rw [hr] at h; cases h)
  have hmeth' : T.vm.method? m = some meth := X.method'
  refine ⟨T.setFrames fs, ?_, .returned (some (.int 1)), hrun, hended, rfl, ⟨_, rfl⟩, hW, hframe⟩
  jvm_step X.here [X.here.top, hx, hb, hdg, hmeth', hr, ret, narrow_b1]
  (try refine ⟨rfl, ?_⟩); (try refine ⟨rfl, ?_⟩)
  first | (intro acts; rw [hret _ acts rfl rfl rfl]) | rw [hret _ _ rfl rfl rfl]
  exact Steps.refl _
/-- what holds at the law's entry: the machine, the code, the tables' words (any of lw_tbl by 'hts w (by decide +kernel)'), the script of L ints xs at the cell b, what the Statement gives of the start (any of its parts by flat_of_before) -/
def lw_At (p : Program) (s : State) (m : MethodId) (meth : Method) (c : Code) (b L : Nat) (xs : Nat → Int32) : Prop :=
  p.tables.exec = Jvm.exec ∧ c.code = code ∧ meth.sig.returnType = ret ∧ c.maxLocals = 8 ∧ s.vm.findClass R_law = some m.cls ∧ (∀ w ∈ lw_tbl, w.before #[Value.ref b] s = true) ∧ va_X b L xs s s.heap ∧ b < s.heap.size ∧ meth.locks = false ∧ (Jvm.Cond.and given_1 narrow_1).before #[Value.ref b] s = true
theorem lw_lt {L j : Nat} (hL : L ≤ 3072) (hj : 6 * j ≤ L) (h : ¬ Int32.ofNat L - 6 < nI (6 * j)) : 6 * j + 6 ≤ L := by
  have h1 : (nI L - nI 6).toInt = (L : Int) - (6 : Nat) := pk_sub_toInt (by omega) (by decide)
  have h2 : (nI (6 * j)).toInt = ((6 * j : Nat) : Int) := nI_toInt (by omega)
  rw [Int32.lt_iff_toInt_lt, show Int32.ofNat L - 6 = nI L - nI 6 from rfl, h1, h2] at h
  omega
theorem lw_in {L j : Nat} (k : Nat) (hL : L ≤ 3072) (h : 6 * j + 6 ≤ L) (hk : k < 6) : vp_in (nI (6 * j) + nI k) L := by
  rw [nI_add]
  exact vp_in_nI (by omega) (by omega)
section LWL
variable {p : Program} {l : Launch} {e : Env} {s : State} {m : MethodId} {below : List Frame} {meth : Method} {c : Code} {D : va_G} {cy : Nat → ClassId} {ad am : Nat → Nat} {ao : Nat} {kn kv : Nat → Nat} {b L : Nat} {xs : Nat → Int32}
set_option maxHeartbeats 4000000 in
set_option maxRecDepth 100000 in
theorem lw_loop (G : lw_H p l s m b L xs meth c D cy kn kv (fun q : Nat => s.heap.size ≤ q)) (hL : L ≤ 3072) : ∀ (n j : Nat) (S1 S2 : RSt) (σ : AS) (f : Nat → Int64) (H : Heap) (locs : List Loc) (ls : Array Slot), 6 * j ≤ L → L < 6 * j + 6 * n → JJ S1 S2 σ → lk_I D cy ad am ao (fun q : Nat => s.heap.size ≤ q) S1 S2 f H → va_S (fun q : Nat => s.heap.size ≤ q) s.heap H locs → lv_has ls 8 (lw_ls b ad am ao (nI (6 * j))) → W p l e room_1 s m #[Value.ref b] below meth c H locs (172 + j) (3842 + 6 * j) (lw_Z below #[Value.ref b] s) (F0 m 23 ls []) := by
  obtain ⟨⟨⟨hx, hb, hml, hown, hts⟩, hr, hlk, hK, hA, hE, hEE⟩, C2, hX, hbl, hbA, hst⟩ := id G
  intro n
  induction n with
  | zero =>
    intro j S1 S2 σ f H locs ls h1 h2
    exact absurd h2 (by omega)
  | succ n ih =>
    intro j S1 S2 σ f H locs ls hj hn J0 J hS hl
    refine lv_iload hx hb dL_law_23 (lv_at hl 4 rfl) ?_
    refine lv_aload_n hx hb dL_law_25 rfl (lv_at hl 0 rfl) ?_
    refine va_slen hx hb hX hbl hbA hS dL_law_26 ?_
    refine lv_bipush (v := 6) hx hb dL_law_27 (by decide) ?_
    refine lv_isub hx hb dL_law_29 ?_
    refine lv_icmp_gt (tgt := 1083) hx hb dL_law_30 (by decide) (fun c_1 => ?_) (fun c_1 => ?_)
    · refine lv_iconst (v := 1) hx hb dL_law_1083 (by decide) ?_
      refine va_forget (fun q hq => hS.2.2 q hq) ?_
      refine W.widen (k := 601024) (n := 7293033) (by omega) (by omega) ?_
      exact lw_ret hx hb hr hlk dL_law_1084
    · have hlt := lw_lt hL hj c_1
      have h1 : vp_in (nI (6 * j) + 1) L := lw_in 1 hL hlt (by decide)
      have h2 : vp_in (nI (6 * j) + 2) L := lw_in 2 hL hlt (by decide)
      have h3 : vp_in (nI (6 * j) + 3) L := lw_in 3 hL hlt (by decide)
      have h4 : vp_in (nI (6 * j) + 4) L := lw_in 4 hL hlt (by decide)
      have h5 : vp_in (nI (6 * j) + 5) L := lw_in 5 hL hlt (by decide)
      have hf : 172 + j + 1 ≤ room_1.cells ∧ 3842 + 6 * j + 6 ≤ room_1.slots := ⟨show 172 + j + 1 ≤ 601024 by omega, show 3842 + 6 * j + 6 ≤ 7293033 by omega⟩
      refine lv_aload_n hx hb dL_law_33 rfl (lv_at hl 0 rfl) ?_
      refine lv_iload hx hb dL_law_34 (lv_at hl 4 rfl) ?_
      refine va_sld hx hb hX hbl hbA hS (vp_in_nI (by omega) (by omega)) dL_law_36 ?_
      refine lv_bipush (v := 31) hx hb dL_law_37 (by decide) ?_
      refine lv_iand hx hb dL_law_39 ?_
      have kk : lw_K p l e s m b below meth c D cy ad am ao (fun q : Nat => s.heap.size ≤ q) (nI (6 * j)) (172 + j) (3842 + 6 * j) (lw_Z below #[Value.ref b] s) := by
        intro S1 S2 σ f H locs ls J0 J hS hl
        refine lv_iinc (v := nI (6 * (j + 1))) (lv' := [(4, .int (nI (6 * (j + 1)))), (0, .ref b), (1, .ref (ad 17)), (2, .ref (am 0)), (3, .ref ao)]) hx hb dL_law_1077 hl (k := 4) rfl (nI_add (6 * j) 6) (by decide) rfl (fun ls hl => ?_)
        refine lv_goto (tgt := 23) hx hb dL_law_1080 (by decide) ?_
        exact W.widen (by omega) (by omega) (ih (j + 1) S1 S2 σ f H locs ls (by omega) (by omega) J0 J hS (lv_sub hl [1, 2, 3, 4, 0] rfl))
      generalize xs (nI (6 * j)).toNatClampNeg &&& 31 = z
      by_cases z0 : z = 0
      · subst z0
        exact lv_tableIn (off := 100) (tgt := 140) hx hb dL_law_40 (by decide) (by decide) (by decide) (by decide) (lw_c0 G h1 h2 h3 h4 h5 J0 J hS hl hf kk)
      by_cases z1 : z = 1
      · subst z1
        exact lv_tableIn (off := 173) (tgt := 213) hx hb dL_law_40 (by decide) (by decide) (by decide) (by decide) (lw_c1 G h1 h2 h3 h4 h5 J0 J hS hl hf kk)
      by_cases z2 : z = 2
      · subst z2
        exact lv_tableIn (off := 198) (tgt := 238) hx hb dL_law_40 (by decide) (by decide) (by decide) (by decide) (lw_c2 G h1 h2 h3 h4 h5 J0 J hS hl hf kk)
      by_cases z3 : z = 3
      · subst z3
        exact lv_tableIn (off := 211) (tgt := 251) hx hb dL_law_40 (by decide) (by decide) (by decide) (by decide) (lw_c3 G h1 h2 h3 h4 h5 J0 J hS hl hf kk)
      by_cases z4 : z = 4
      · subst z4
        exact lv_tableIn (off := 224) (tgt := 264) hx hb dL_law_40 (by decide) (by decide) (by decide) (by decide) (lw_c4 G h1 h2 h3 h4 h5 J0 J hS hl hf kk)
      by_cases z5 : z = 5
      · subst z5
        exact lv_tableIn (off := 249) (tgt := 289) hx hb dL_law_40 (by decide) (by decide) (by decide) (by decide) (lw_c5 G h1 h2 h3 h4 h5 J0 J hS hl hf kk)
      by_cases z6 : z = 6
      · subst z6
        exact lv_tableIn (off := 286) (tgt := 326) hx hb dL_law_40 (by decide) (by decide) (by decide) (by decide) (lw_c6 G h1 h2 h3 h4 h5 J0 J hS hl hf kk)
      by_cases z7 : z = 7
      · subst z7
        exact lv_tableIn (off := 354) (tgt := 394) hx hb dL_law_40 (by decide) (by decide) (by decide) (by decide) (lw_c7 G h1 h2 h3 h4 h5 J0 J hS hl hf kk)
      by_cases z8 : z = 8
      · subst z8
        exact lv_tableIn (off := 379) (tgt := 419) hx hb dL_law_40 (by decide) (by decide) (by decide) (by decide) (lw_c8 G h1 h2 h3 h4 h5 J0 J hS hl hf kk)
      by_cases z9 : z = 9
      · subst z9
        exact lv_tableIn (off := 462) (tgt := 502) hx hb dL_law_40 (by decide) (by decide) (by decide) (by decide) (lw_c9 G h1 h2 h3 h4 h5 J0 J hS hl hf kk)
      by_cases z10 : z = 10
      · subst z10
        exact lv_tableIn (off := 545) (tgt := 585) hx hb dL_law_40 (by decide) (by decide) (by decide) (by decide) (lw_c10 G h1 h2 h3 h4 h5 J0 J hS hl hf kk)
      by_cases z11 : z = 11
      · subst z11
        exact lv_tableIn (off := 587) (tgt := 627) hx hb dL_law_40 (by decide) (by decide) (by decide) (by decide) (lw_c11 G h1 h2 h3 h4 h5 J0 J hS hl hf kk)
      by_cases z12 : z = 12
      · subst z12
        exact lv_tableIn (off := 600) (tgt := 640) hx hb dL_law_40 (by decide) (by decide) (by decide) (by decide) (lw_c12 G h1 h2 h3 h4 h5 J0 J hS hl hf kk)
      by_cases z13 : z = 13
      · subst z13
        exact lv_tableIn (off := 695) (tgt := 735) hx hb dL_law_40 (by decide) (by decide) (by decide) (by decide) (lw_c13 G h1 h2 h3 h4 h5 J0 J hS hl hf kk)
      by_cases z14 : z = 14
      · subst z14
        exact lv_tableIn (off := 814) (tgt := 854) hx hb dL_law_40 (by decide) (by decide) (by decide) (by decide) (lw_c14 G h1 h2 h3 h4 h5 J0 J hS hl hf kk)
      by_cases z15 : z = 15
      · subst z15
        exact lv_tableIn (off := 851) (tgt := 891) hx hb dL_law_40 (by decide) (by decide) (by decide) (by decide) (lw_c15 G h1 h2 h3 h4 h5 J0 J hS hl hf kk)
      by_cases z16 : z = 16
      · subst z16
        exact lv_tableIn (off := 864) (tgt := 904) hx hb dL_law_40 (by decide) (by decide) (by decide) (by decide) (lw_c16 G h1 h2 h3 h4 h5 J0 J hS hl hf kk)
      by_cases z17 : z = 17
      · subst z17
        exact lv_tableIn (off := 913) (tgt := 953) hx hb dL_law_40 (by decide) (by decide) (by decide) (by decide) (lw_c17 G h1 h2 h3 h4 h5 J0 J hS hl hf kk)
      by_cases z18 : z = 18
      · subst z18
        exact lv_tableIn (off := 950) (tgt := 990) hx hb dL_law_40 (by decide) (by decide) (by decide) (by decide) (lw_c18 G h1 h2 h3 h4 h5 J0 J hS hl hf kk)
      by_cases z19 : z = 19
      · subst z19
        exact lv_tableIn (off := 987) (tgt := 1027) hx hb dL_law_40 (by decide) (by decide) (by decide) (by decide) (lw_c19 G h1 h2 h3 h4 h5 J0 J hS hl hf kk)
      by_cases z20 : z = 20
      · subst z20
        exact lv_tableIn (off := 1024) (tgt := 1064) hx hb dL_law_40 (by decide) (by decide) (by decide) (by decide) (lw_c20 G h1 h2 h3 h4 h5 J0 J hS hl hf kk)
      have hz : z.toInt < 0 ∨ (20 : Int) < z.toInt := by
        have y0 := sw_ne (z := 0) z0 (by decide)
        have y1 := sw_ne (z := 1) z1 (by decide)
        have y2 := sw_ne (z := 2) z2 (by decide)
        have y3 := sw_ne (z := 3) z3 (by decide)
        have y4 := sw_ne (z := 4) z4 (by decide)
        have y5 := sw_ne (z := 5) z5 (by decide)
        have y6 := sw_ne (z := 6) z6 (by decide)
        have y7 := sw_ne (z := 7) z7 (by decide)
        have y8 := sw_ne (z := 8) z8 (by decide)
        have y9 := sw_ne (z := 9) z9 (by decide)
        have y10 := sw_ne (z := 10) z10 (by decide)
        have y11 := sw_ne (z := 11) z11 (by decide)
        have y12 := sw_ne (z := 12) z12 (by decide)
        have y13 := sw_ne (z := 13) z13 (by decide)
        have y14 := sw_ne (z := 14) z14 (by decide)
        have y15 := sw_ne (z := 15) z15 (by decide)
        have y16 := sw_ne (z := 16) z16 (by decide)
        have y17 := sw_ne (z := 17) z17 (by decide)
        have y18 := sw_ne (z := 18) z18 (by decide)
        have y19 := sw_ne (z := 19) z19 (by decide)
        have y20 := sw_ne (z := 20) z20 (by decide)
        omega
      exact lv_tableOut (tgt := 1077) hx hb dL_law_40 hz (by decide) (W.widen (k := 172 + j + 1) (n := 3842 + 6 * j + 6) (by omega) (by omega) (kk S1 S2 σ f H locs ls J0 J hS hl))
end LWL
