/-! The landed elimination: cells by months; first months stand still. -/
def cq (β : BK) (q : Nat) : Nat := if q < bk_n β then q else q - bk_n β
def cc (β : BK) (q : Nat) : Nat := if q < bk_n β then ui β q else um β + ui β (q - bk_n β)
def ce (β : BK) (k r q : Nat) : Int := if pt β r = r then (if cq β q = r then (dJ β k).2 else 0) else if pt β (cq β q) = cq β q then 0 else (dJ β k).1 (ui β r) (cc β q)
theorem ob_jp {τ α : Type} {T : τ} {c : Prop} [Decidable c] {A B : τ → Option α} (h : c) : ob_j T (fun t => if c then A t else B t) = A T := if_pos h
theorem ob_jn {τ α : Type} {T : τ} {c : Prop} [Decidable c] {A B : τ → Option α} (h : ¬ c) : ob_j T (fun t => if c then A t else B t) = B T := if_neg h
section CSV
variable {β : BK}
theorem cq_lt {q : Nat} (hq : q < 2 * bk_n β) : cq β q < bk_n β := by
  unfold cq
  split <;> omega
theorem cc_lt {q : Nat} (hq : q < 2 * bk_n β) (h : pt β (cq β q) ≠ cq β q) : cc β q < 2 * um β := by
  have := (ui_ok (cq_lt hq) h).1
  unfold cc
  unfold cq at this
  by_cases c : q < bk_n β
  · rw [if_pos c] at this ⊢
    omega
  · rw [if_neg c] at this ⊢
    omega
theorem cq_x {x : Nat} (hx : x < bk_n β) : cq β x = x := if_pos hx
theorem cc_x {x : Nat} (hx : x < bk_n β) : cc β x = ui β x := if_pos hx
theorem ce_f {k r q : Nat} (h : pt β r = r) : ce β k r q = if cq β q = r then (dJ β k).2 else 0 := if_pos h
theorem ce_u {k r q : Nat} (h : pt β r ≠ r) : ce β k r q = if pt β (cq β q) = cq β q then 0 else (dJ β k).1 (ui β r) (cc β q) := if_neg h
theorem ui_f {x : Nat} (h : pt β x = x) : ui β (x + 1) = ui β x := by unfold ui; rw [uu_p h]
theorem ui_u {x : Nat} (h : pt β x ≠ x) : ui β (x + 1) = ui β x + 1 := by unfold ui; rw [uu_n h]
theorem ui_le {x y : Nat} : ∀ d, x + d = y → ui β x ≤ ui β y
  | 0, e => by rw [← e]; exact Nat.le_refl _
  | d + 1, e => by
    have h := ui_le (x := x) (y := x + d) d rfl
    rw [← e, ← Nat.add_assoc]
    by_cases c : pt β (x + d) = x + d
    · rw [ui_f c]
      exact h
    · rw [ui_u c]
      omega
theorem ui_um {x : Nat} (hx : x ≤ bk_n β) : ui β x ≤ um β := ui_le (bk_n β - x) (by omega)
theorem ce_b (hb : bk_ok β) (hk : pk β ≤ 18) {k r q : Nat} (h : k ≤ um β) (hr : r < bk_n β) (hq : q < 2 * bk_n β) : -14495514624 ≤ ce β k r q ∧ ce β k r q ≤ 14495514624 := by
  have p := dJ_p hb hk h
  by_cases c : pt β r = r
  · rw [ce_f c]
    split <;> omega
  · rw [ce_u c]
    by_cases d : pt β (cq β q) = cq β q
    · rw [if_pos d]
      omega
    · rw [if_neg d]
      exact dJ_q hb hk h (ui_ok hr c).1 (cc_lt hq d)
theorem ce_px (hb : bk_ok β) (hk : pk β ≤ 18) {x : Nat} (hx : x < bk_n β) : (∀ q, q < 2 * bk_n β → -268435456 ≤ ce β (ui β x) x q ∧ ce β (ui β x) x q ≤ 268435456) ∧ ce β (ui β x) x x = (dJ β (ui β (x + 1))).2 := by
  have u := ui_um (β := β) (x := x) (by omega)
  have p := dJ_p hb hk u
  by_cases c : pt β x = x
  · refine ⟨fun q hq => ?_, ?_⟩
    · rw [ce_f c]
      split <;> omega
    · rw [ce_f c, cq_x hx, if_pos rfl, ui_f c]
  · have l := (ui_ok hx c).1
    refine ⟨fun q hq => ?_, ?_⟩
    · rw [ce_u c]
      by_cases d : pt β (cq β q) = cq β q
      · rw [if_pos d]
        omega
      · rw [if_neg d]
        exact dJ_k hb hk l (cc_lt hq d)
    · rw [ce_u c, cq_x hx, if_neg c, cc_x hx, ui_u c]
      rfl
theorem ce_step (hb : bk_ok β) (hk : pk β ≤ 18) {x r q : Nat} (hx : x < bk_n β) (hr : r < bk_n β) (hne : r ≠ x) (hq : q < 2 * bk_n β) : ce β (ui β x) r q * ce β (ui β x) x x - ce β (ui β x) x q * ce β (ui β x) r x = (dJ β (ui β x)).2 * ce β (ui β (x + 1)) r q := by
  have u := ui_um (β := β) (x := x) (by omega)
  have p := dJ_p hb hk u
  by_cases c : pt β x = x
  · rw [ui_f c, show ce β (ui β x) x x = (dJ β (ui β x)).2 by rw [ce_f c, cq_x hx, if_pos rfl], show ce β (ui β x) r x = 0 by
      by_cases d : pt β r = r
      · rw [ce_f d, cq_x hx, if_neg (fun z => hne z.symm)]
      · rw [ce_u d, cq_x hx, if_pos c]]
    generalize (dJ β (ui β x)).2 = p
    generalize ce β (ui β x) r q = a
    grind
  · have l := (ui_ok hx c).1
    have I := (dJ_IB hb (k := ui β x) (by omega)).1
    rw [ui_u c, show ce β (ui β x) x x = (dJ β (ui β x)).1 (ui β x) (ui β x) by rw [ce_u c, cq_x hx, if_neg c, cc_x hx]]
    by_cases d : pt β r = r
    · rw [ce_f d, ce_f d, ce_f d, cq_x hx, if_neg (show ¬ x = r from fun z => hne z.symm), show (dJ β (ui β x + 1)).2 = (dJ β (ui β x)).1 (ui β x) (ui β x) from rfl]
      generalize (dJ β (ui β x)).1 (ui β x) (ui β x) = a
      generalize (dJ β (ui β x)).2 = p
      split
      · grind
      · grind
    · have lr := (ui_ok hr d).1
      have hir : ui β r ≠ ui β x := fun e => hne (by rw [← (ui_ok hr d).2, ← (ui_ok hx c).2, e])
      rw [ce_u d, ce_u d, ce_u d, ce_u c, cq_x hx, if_neg c, cc_x hx]
      by_cases g : pt β (cq β q) = cq β q
      · rw [if_pos g, if_pos g, if_pos g]
        omega
      · rw [if_neg g, if_neg g, if_neg g]
        have e := gj_ex (q := cc β q) l (by omega) I lr hir
        rw [show (dJ β (ui β x + 1)).1 = gj_st (ui β x) (dJ β (ui β x)).1 (dJ β (ui β x)).2 from rfl, e]
        generalize (dJ β (ui β x)).1 (ui β x) (ui β x) = a
        generalize (dJ β (ui β x)).1 (ui β r) (cc β q) = b
        generalize (dJ β (ui β x)).1 (ui β r) (ui β x) = e
        generalize (dJ β (ui β x)).1 (ui β x) (cc β q) = f
        grind
theorem ce_piv {x q : Nat} (hx : x < bk_n β) : ce β (ui β (x + 1)) x q = ce β (ui β x) x q := by
  by_cases c : pt β x = x
  · rw [ui_f c]
  · rw [ce_u c, ce_u c, ui_u c]
    by_cases g : pt β (cq β q) = cq β q
    · rw [if_pos g, if_pos g]
    · rw [if_neg g, if_neg g]
      show gj_st (ui β x) (dJ β (ui β x)).1 (dJ β (ui β x)).2 (ui β x) (cc β q) = _
      unfold gj_st
      rw [if_pos rfl]
theorem dD_pD {i r : Nat} (hr : r < bk_n β) (h : pt β r ≠ r) : dD β i (ui β r) = pD (pF β) i r := by
  unfold dD pD
  rw [(ui_ok hr h).2]
/-- the first cells -/
def M0 (β : BK) : Nat → Nat → Int := fun r q => if q = bk_n β + r then 1 else if q = r ∧ pt β r = r then 1 else 0
theorem ce_0 {r q : Nat} (hr : r < bk_n β) (hq : q < 2 * bk_n β) : ce β 0 r q = mA β (bk_n β) (pt β) (M0 β) (pk β) r q := by
  unfold mA M0
  have e2 : (dJ β 0).2 = 1 := rfl
  by_cases c : pt β r = r
  · rw [ce_f c, if_neg (show ¬ (pt β r ≠ r ∧ (q < bk_n β ∧ pt β q ≠ q)) from fun z => z.1 c), e2]
    unfold cq
    by_cases d : q < bk_n β
    · rw [if_pos d, if_neg (show ¬ q = bk_n β + r by omega)]
      by_cases e : q = r
      · rw [if_pos e, if_pos ⟨e, c⟩]
        rfl
      · rw [if_neg e, if_neg (fun z => e z.1)]
        rfl
    · rw [if_neg d, if_neg (show ¬ (q = r ∧ pt β r = r) by omega)]
      by_cases e : q = bk_n β + r
      · rw [if_pos e, if_pos (by omega)]
        rfl
      · rw [if_neg e, if_neg (by omega)]
        rfl
  · rw [ce_u c, if_neg (show ¬ (q = r ∧ pt β r = r) from fun z => c z.2)]
    have e1 : ∀ i z, (dJ β 0).1 i z = gj_V (um β) (dA β) z i := fun _ _ => rfl
    unfold cq cc
    by_cases d : q < bk_n β
    · rw [if_pos d, if_pos d, if_neg (show ¬ q = bk_n β + r by omega)]
      by_cases g : pt β q = q
      · rw [if_pos g, if_neg (fun z => z.2.2 g)]
        rfl
      · rw [if_neg g, if_pos ⟨c, d, g⟩, e1]
        unfold gj_V
        rw [if_pos (ui_ok d g).1]
        show dAk β (pk β) (ui β r) (ui β q) = _
        unfold dAk
        rw [Int.zero_add]
        exact sm_congr (fun i _ => by rw [dD_pD hr c, dD_pD d g])
    · rw [if_neg d, if_neg d, if_neg (show ¬ (pt β r ≠ r ∧ (q < bk_n β ∧ pt β q ≠ q)) from fun z => d z.2.1)]
      by_cases g : pt β (q - bk_n β) = q - bk_n β
      · rw [if_pos g, if_neg (show ¬ q = bk_n β + r from fun z => c (by rw [show r = q - bk_n β by omega]; exact g))]
        rfl
      · rw [if_neg g, e1]
        unfold gj_V un
        rw [if_neg (by omega), show um β + ui β (q - bk_n β) - um β = ui β (q - bk_n β) by omega]
        by_cases e : q = bk_n β + r
        · rw [if_pos e, if_pos (by rw [show q - bk_n β = r by omega])]
          rfl
        · rw [if_neg e, if_neg (fun z => e (by
            have h1 := (ui_ok hr c).2
            have h2 := (ui_ok (show q - bk_n β < bk_n β by omega) g).2
            rw [z, h2] at h1
            omega))]
          rfl
theorem mG_dG {r : Nat} (hr : r < bk_n β) : mG β (pt β) (pk β) r = if pt β r = r then 0 else dG β (ui β r) := by
  unfold mG
  by_cases c : pt β r = r
  · rw [if_neg (fun z => z c), if_pos c]
  · rw [if_pos c, if_neg c]
    unfold dG dGk
    exact sm_congr (fun i _ => by rw [dD_pD hr c])
theorem sm_un (f : Nat → Int) : ∀ x, sm x (fun o => if pt β o = o then 0 else f (ui β o)) = sm (ui β x) f
  | 0 => rfl
  | x + 1 => by
    rw [sm, sm_un f x]
    by_cases c : pt β x = x
    · rw [if_pos c, ui_f c]
      omega
    · rw [if_neg c, ui_u c, sm]
variable {S : RSt} {j : Nat}
theorem two_n {n : Nat} : (2 : Int32) * nI n = nI (2 * n) := by rw [show (2 : Int32) = nI 2 from rfl, pk_mul]
theorem c_zeroRow {n : Nat} (hn : n ≤ 8) (e39 : st_i S (39 + 2 * j) = nI n) {x : Nat} (hx : x < n) : ∃ S', fX1_writeRows_L12 j 1000 (nI x) 0 S = some S' ∧ (∀ q, q < 2 * n → st_g S' (4 + 8 * j + x) q = iL 0) ∧ fr no no no (fun a => a = 4 + 8 * j + x) S S' := by
  obtain ⟨r, e, h1, h2⟩ := lp_up (fun f i s => fX1_writeRows_L12 j f (nI x) (nI i) s) (fun i s => (∀ q, q < i → st_g s (4 + 8 * j + x) q = iL 0) ∧ fr no no no (fun a => a = 4 + 8 * j + x) S s) (2 * n) (fun r => (∀ q, q < 2 * n → st_g r (4 + 8 * j + x) q = iL 0) ∧ fr no no no (fun a => a = 4 + 8 * j + x) S r)
    (fun f s hs => ⟨s, by
      show fX1_writeRows_L12 j (f + 1) (nI x) (nI (2 * n)) s = some s
      rw [fX1_writeRows_L12, hs.2.1 _ (fun z => z), e39, two_n, if_pos (nI_le (Nat.le_refl _) (by omega))], hs⟩)
    (fun f i s hi hs => Or.inr (by
      show ∃ s', _ ∧ fX1_writeRows_L12 j (f + 1) (nI x) (nI i) s = fX1_writeRows_L12 j f (nI x) (nI (i + 1)) s'
      rw [fX1_writeRows_L12, hs.2.1 _ (fun z => z), e39, two_n, if_neg (nI_ge (b := 2 * n) hi (by omega)), ob_in_t (vp_in_nI (show x < 8 by omega) (by decide)), ob_in_t (vp_in_nI (show i < 16 by omega) (by decide)), nI_clamp (by omega), nI_clamp (by omega), nI_1]
      refine ⟨_, ⟨fun q hq => ?_, fr_tr hs.2 (fr_sg rfl)⟩, rfl⟩
      by_cases e : q = i
      · rw [sg_p rfl e]
        rfl
      · rw [sg_n (Or.inr e), hs.1 q (by omega)]))
    (2 * n) 0 1000 S (by omega) (by omega) ⟨fun q hq => absurd hq (Nat.not_lt_zero q), fr_rf⟩
  exact ⟨r, e, h1, h2⟩
theorem c_writeRows (hb : bk_ok β) (hk : pk β ≤ 18) (hj : j < 2) (Q : cQ S j (bk_n β) (pt β)) (P : cP S j β (pk β) (pF β)) : ∃ S', fX1_writeRows j S = some S' ∧ cM S' j (bk_n β) (ce β 0) ∧ cU S' j (bk_n β) (fun r => if pt β r = r then 0 else dG β (ui β r)) ∧ fW j S S' := by
  have hn := hb.2.1
  have hπ := (pt_ok (β := β) (Nat.le_refl _)).2.1
  obtain ⟨r, e, h1, h2, h3⟩ := lp_up (fun f i s => fX1_writeRows_L2 j f (nI i) s) (fun i s => (∀ r q, r < i → q < 2 * bk_n β → st_g s (4 + 8 * j + r) q = iL (M0 β r q)) ∧ (∀ r, r < i → st_g s (2 + j) r = iL 0) ∧ fW j S s) (bk_n β) (fun s => (∀ r q, r < bk_n β → q < 2 * bk_n β → st_g s (4 + 8 * j + r) q = iL (M0 β r q)) ∧ (∀ r, r < bk_n β → st_g s (2 + j) r = iL 0) ∧ fW j S s)
    (fun f s hs => ⟨s, by
      show fX1_writeRows_L2 j (f + 1) (nI (bk_n β)) s = some s
      rw [fX1_writeRows_L2, hs.2.2.1 _ (fun z => z), Q.1, if_pos (nI_le (Nat.le_refl _) (by omega))], hs⟩)
    (fun f i s hi hs => Or.inr (by
      show ∃ s', _ ∧ fX1_writeRows_L2 j (f + 1) (nI i) s = fX1_writeRows_L2 j f (nI (i + 1)) s'
      obtain ⟨g1, g2, g3⟩ := hs
      have Qs := cQ_fW Q g3
      obtain ⟨S6, e6, z6, f6⟩ := c_zeroRow (j := j) hn Qs.1 hi
      have F6 : fW j S S6 := fr_tr g3 (fr_mo f6 (fun _ z => z) (fun _ z => z) (fun _ z => z) (fun _ z => Or.inr ⟨by omega, by omega⟩))
      have Q6 := cQ_fW Q F6
      have e39 := Q6.1
      rw [fX1_writeRows_L2, Qs.1, if_neg (nI_ge (b := bk_n β) hi (by omega)), ob_1t e6, Q6.1, nI_add, ob_in_t (vp_in_nI (show i < 8 by omega) (by decide)), ob_in_t (vp_in_nI (show bk_n β + i < 16 by omega) (by decide)), ob_in_t (vp_in_nI (show i < 8 by omega) (by decide)), nI_clamp (by omega), nI_clamp (by omega)]
      have F7 : fW j S (st_sg S6 (4 + 8 * j + i) (bk_n β + i) 1) := fr_tr F6 (fr_sg (Or.inr ⟨by omega, by omega⟩))
      rw [ob_2t (c_isFirst hn (cQ_fW Q F7) hπ hi), nI_1]
      have key : ∀ v : Int64, v = iL (if pt β i = i then 1 else 0) → ∃ s' : RSt, ((∀ r q, r < i + 1 → q < 2 * bk_n β → st_g s' (4 + 8 * j + r) q = iL (M0 β r q)) ∧ (∀ r, r < i + 1 → st_g s' (2 + j) r = iL 0) ∧ fW j S s') ∧ ob_in (nI i) 16 (ob_in (nI i) 8 (fX1_writeRows_L2 j f (nI (i + 1)) (st_sg (st_sg (st_sg S6 (4 + 8 * j + i) (bk_n β + i) 1) (4 + 8 * j + i) i v) (2 + j) i (0 : Int64)))) = fX1_writeRows_L2 j f (nI (i + 1)) s' := by
        intro v hv
        refine ⟨st_sg (st_sg (st_sg S6 (4 + 8 * j + i) (bk_n β + i) 1) (4 + 8 * j + i) i v) (2 + j) i (0 : Int64), ⟨fun r q hr hq => ?_, fun r hr => ?_, fr_tr F7 (fr_tr (fr_sg (Or.inr ⟨by omega, by omega⟩)) (fr_sg (Or.inl rfl)))⟩, by rw [ob_in_t (vp_in_nI (show i < 16 by omega) (by decide)), ob_in_t (vp_in_nI (show i < 8 by omega) (by decide))]⟩
        · rw [sg_n (Or.inl (by omega))]
          unfold M0
          by_cases er : r = i
          · subst er
            by_cases eq : q = r
            · rw [sg_p rfl eq, if_neg (by omega), hv, eq]
              by_cases c : pt β r = r
              · rw [if_pos c, if_pos ⟨rfl, c⟩]
              · rw [if_neg c, if_neg (fun z => c z.2)]
            · rw [sg_n (Or.inr eq)]
              by_cases eq2 : q = bk_n β + r
              · rw [sg_p rfl eq2, if_pos eq2]
                rfl
              · rw [sg_n (Or.inr eq2), z6 q hq, if_neg eq2, if_neg (fun z => eq z.1)]
          · rw [sg_n (Or.inl (by omega)), sg_n (Or.inl (by omega)), f6.2.2.2 _ (by omega), g1 r q (by omega) hq]
            rfl
        · by_cases er : r = i
          · rw [sg_p rfl er]
            rfl
          · rw [sg_n (Or.inr er), sg_n (Or.inl (by omega)), sg_n (Or.inl (by omega)), f6.2.2.2 _ (by omega), g2 r (by omega)]
      by_cases c : pt β i = i
      · rw [if_pos c]
        obtain ⟨s', k1, k2⟩ := key 1 (by rw [if_pos c]; rfl)
        refine ⟨s', k1, ?_⟩
        rw [← k2]
        rw [ob_jn ne0]
      · rw [if_neg c]
        obtain ⟨s', k1, k2⟩ := key 0 (by rw [if_neg c]; rfl)
        refine ⟨s', k1, ?_⟩
        rw [← k2]
        rw [ob_jp rfl]))
    (bk_n β) 0 1000 S (by omega) (by omega) ⟨fun r q hr => absurd hr (Nat.not_lt_zero r), fun r hr => absurd hr (Nat.not_lt_zero r), fr_rf⟩
  have U0 : cM r j (bk_n β) (mA β (bk_n β) (pt β) (M0 β) 0) := fun a q ha hq => by
    rw [h1 a q ha hq]
    unfold mA
    rw [sm]
    split <;> rw [Int.add_zero]
  have G0 : cU r j (bk_n β) (mG β (pt β) 0) := fun a ha => by
    rw [h2 a ha]
    unfold mG
    rw [sm]
    split <;> rfl
  obtain ⟨r2, e2, k1, k2, k3⟩ := lp_up (fun f i s => fX1_writeRows_L87 j f (nI i) s) (fun i s => cM s j (bk_n β) (mA β (bk_n β) (pt β) (M0 β) i) ∧ cU s j (bk_n β) (mG β (pt β) i) ∧ fW j S s) (pk β) (fun s => cM s j (bk_n β) (mA β (bk_n β) (pt β) (M0 β) (pk β)) ∧ cU s j (bk_n β) (mG β (pt β) (pk β)) ∧ fW j S s)
    (fun f s hs => ⟨s, by
      show fX1_writeRows_L87 j (f + 1) (nI (pk β)) s = some s
      rw [fX1_writeRows_L87, hs.2.2.1 _ (fun z => z), P.1, if_pos (nI_le (Nat.le_refl _) (by omega))], hs⟩)
    (fun f i s hi hs => Or.inr (by
      show ∃ s', _ ∧ fX1_writeRows_L87 j (f + 1) (nI i) s = fX1_writeRows_L87 j f (nI (i + 1)) s'
      obtain ⟨g1, g2, g3⟩ := hs
      obtain ⟨S', w1, w2, w3, w4⟩ := c_writePair hj hb hn (cQ_fW Q g3) hπ (cP_fW P g3) hi (by have v := pF_v hi; exact ⟨v.2.1, v.2.2⟩) g1 g2
      rw [fX1_writeRows_L87, g3.1 _ (fun z => z), P.1, if_neg (nI_ge (b := pk β) hi (by omega)), ob_in_t (vp_in_nI (show i < 42 by omega) (by decide)), nI_clamp (by omega), ob_1t w1, nI_1]
      exact ⟨S', ⟨w2, w3, fr_tr g3 w4⟩, rfl⟩))
    (pk β) 0 1000 r (by omega) (by omega) ⟨U0, G0, h3⟩
  unfold fX1_writeRows
  have e : fX1_writeRows_L2 j 1000 (0 : Int32) S = some r := e
  have e2 : fX1_writeRows_L87 j 1000 (0 : Int32) r = some r2 := e2
  rw [ob_1t e, ob_1t e2]
  exact ⟨r2, rfl, cM_cg k1 (fun a q ha hq => ce_0 ha hq), cU_cg k2 (fun a ha => (mG_dG ha).symm), k3⟩
/-! Rows cleared. -/
theorem c_clearCell {n : Nat} (hn : n ≤ 8) (e39 : st_i S (39 + 2 * j) = nI n) {M : Nat → Nat → Int} (U : cM S j n M) {r x : Nat} (hr : r < n) (hx : x < n) (hne : r ≠ x) {p : Int} (hp : 0 < p) (hp2 : p < 9223372036854775808) {Z : Nat → Int} (hz : ∀ q, q < 2 * n → M r q * M x x - M x q * M r x = p * Z q ∧ -9223372036854775808 < p * Z q ∧ p * Z q < 9223372036854775808) : ∃ S', fX1_clearCell j r x (nI x) (iL p) S = some S' ∧ cM S' j n (fun a q => if a = r then Z q else M a q) ∧ fr no no no (fun a => 4 + 8 * j ≤ a ∧ a < 12 + 8 * j) S S' := by
  obtain ⟨s, e, h1, h2, h3⟩ := lp_up (fun f i s => fX1_clearCell_L21 j r x f (iL p) (iL (M x x)) (iL (M r x)) (nI i) s) (fun i s => (∀ q, q < 2 * n → st_g s (4 + 8 * j + r) q = iL (if q < i then Z q else M r q)) ∧ (∀ a q, a ≠ r → a < n → q < 2 * n → st_g s (4 + 8 * j + a) q = iL (M a q)) ∧ fr no no no (fun a => 4 + 8 * j ≤ a ∧ a < 12 + 8 * j) S s) (2 * n) (fun s => (∀ q, q < 2 * n → st_g s (4 + 8 * j + r) q = iL (Z q)) ∧ (∀ a q, a ≠ r → a < n → q < 2 * n → st_g s (4 + 8 * j + a) q = iL (M a q)) ∧ fr no no no (fun a => 4 + 8 * j ≤ a ∧ a < 12 + 8 * j) S s)
    (fun f s hs => ⟨s, by
      show fX1_clearCell_L21 j r x (f + 1) (iL p) (iL (M x x)) (iL (M r x)) (nI (2 * n)) s = some s
      rw [fX1_clearCell_L21, hs.2.2.1 _ (fun z => z), e39, two_n, if_pos (nI_le (Nat.le_refl _) (by omega))], fun q hq => by rw [hs.1 q hq, if_pos hq], hs.2⟩)
    (fun f i s hi hs => Or.inr (by
      obtain ⟨g1, g2, g3⟩ := hs
      show ∃ s', _ ∧ fX1_clearCell_L21 j r x (f + 1) (iL p) (iL (M x x)) (iL (M r x)) (nI i) s = fX1_clearCell_L21 j r x f (iL p) (iL (M x x)) (iL (M r x)) (nI (i + 1)) s'
      have gi := g1 i hi
      rw [if_neg (Nat.lt_irrefl i)] at gi
      have i16 : vp_in (nI i) 16 := vp_in_nI (show i < 16 by omega) (by decide)
      obtain ⟨z1, z2, z3⟩ := hz i hi
      rw [fX1_clearCell_L21, g3.1 _ (fun z => z), e39, two_n, if_neg (nI_ge (b := 2 * n) hi (by omega)), ob_in_t i16, ob_in_t i16, ob_nz_t (fun z => absurd ((iL_eq (y := 0) (by omega) (by omega) (by omega) (by omega)).mp z) (by omega)), ob_in_t i16, nI_clamp (by omega), gi, g2 x i (fun z => hne z.symm) hx hi, iL_mul, iL_mul, iL_sub, z1, iL_div z2 z3 hp hp2 rfl, nI_1]
      refine ⟨_, ⟨fun q hq => ?_, fun a q ha hal hq => ?_, fr_tr g3 (fr_sg ⟨by omega, by omega⟩)⟩, rfl⟩
      · by_cases eq : q = i
        · rw [sg_p rfl eq, if_pos (by omega), eq]
        · rw [sg_n (Or.inr eq), g1 q hq]
          by_cases c : q < i
          · rw [if_pos c, if_pos (by omega)]
          · rw [if_neg c, if_neg (by omega)]
      · rw [sg_n (Or.inl (by omega)), g2 a q ha hal hq]))
    (2 * n) 0 1000 S (by omega) (by omega) ⟨fun q hq => by rw [if_neg (Nat.not_lt_zero q)]; exact U r q hr hq, fun a q _ ha hq => U a q ha hq, fr_rf⟩
  unfold fX1_clearCell
  have e : fX1_clearCell_L21 j r x 1000 (iL p) (iL (M x x)) (iL (M r x)) (0 : Int32) S = some s := e
  rw [if_neg (lg_z (by omega) (by omega) (by omega)), ob_in_t (vp_in_nI (show x < 16 by omega) (by decide)), ob_in_t (vp_in_nI (show x < 16 by omega) (by decide)), nI_clamp (by omega), U x x hx (by omega), U r x hr (by omega), ob_1t e]
  refine ⟨s, rfl, fun a q ha hq => ?_, h3⟩
  show _ = iL (if a = r then Z q else M a q)
  by_cases c : a = r
  · rw [if_pos c, c, h1 q hq]
  · rw [if_neg c, h2 a q c ha hq]
def fV (j : Nat) : RSt → RSt → Prop := fr no no no (fun a => 4 + 8 * j ≤ a ∧ a < 12 + 8 * j)
theorem c_pivot {n : Nat} (hn : n ≤ 8) (e39 : st_i S (39 + 2 * j) = nI n) {M : Nat → Nat → Int} (U : cM S j n M) {x : Nat} (hx : x < n) {p : Int} (hp : 0 < p) (hp2 : p < 9223372036854775808) {Z : Nat → Nat → Int} (hz : ∀ r q, r < n → r ≠ x → q < 2 * n → M r q * M x x - M x q * M r x = p * Z r q ∧ -9223372036854775808 < p * Z r q ∧ p * Z r q < 9223372036854775808) (hxz : ∀ q, q < 2 * n → Z x q = M x q) : ∃ S', fX1_invertRows_L15 j 1000 (iL p) (nI x) 0 S = some S' ∧ cM S' j n Z ∧ fV j S S' := by
  obtain ⟨s, e, h1, h2⟩ := lp_up (fun f i s => fX1_invertRows_L15 j f (iL p) (nI x) (nI i) s) (fun i s => cM s j n (fun r q => if r < i then Z r q else M r q) ∧ fV j S s) n (fun s => cM s j n Z ∧ fV j S s)
    (fun f s hs => ⟨s, by
      show fX1_invertRows_L15 j (f + 1) (iL p) (nI x) (nI n) s = some s
      rw [fX1_invertRows_L15, hs.2.1 _ (fun z => z), e39, if_pos (nI_le (Nat.le_refl _) (by omega))], cM_cg hs.1 (fun r q hr _ => (if_pos hr).symm), hs.2⟩)
    (fun f i s hi hs => Or.inr (by
      obtain ⟨g1, g2⟩ := hs
      show ∃ s', _ ∧ fX1_invertRows_L15 j (f + 1) (iL p) (nI x) (nI i) s = fX1_invertRows_L15 j f (iL p) (nI x) (nI (i + 1)) s'
      rw [fX1_invertRows_L15, g2.1 _ (fun z => z), e39, if_neg (nI_ge (b := n) hi (by omega)), nI_1]
      by_cases c : i = x
      · subst c
        rw [if_pos rfl]
        refine ⟨s, ⟨cM_cg g1 (fun r q hr hq => ?_), g2⟩, rfl⟩
        show (if r < i + 1 then Z r q else M r q) = if r < i then Z r q else M r q
        by_cases d : r = i
        · subst d
          rw [if_pos (by omega), if_neg (by omega), hxz q hq]
        · by_cases d2 : r < i
          · rw [if_pos d2, if_pos (by omega)]
          · rw [if_neg d2, if_neg (by omega)]
      · rw [if_neg (fun z => c ((nI_eq (by omega) (by omega)).mp z)), ob_in_t (vp_in_nI (show i < 8 by omega) (by decide)), ob_in_t (vp_in_nI (show x < 8 by omega) (by decide)), nI_clamp (by omega), nI_clamp (by omega)]
        have hMx : ∀ q, q < 2 * n → (if x < i then Z x q else M x q) = M x q := fun q hq => by
          split
          · exact hxz q hq
          · rfl
        obtain ⟨S', k1, k2, k3⟩ := c_clearCell (j := j) hn ((g2.1 _ (fun z => z)).trans e39) g1 hi hx c hp hp2 (Z := Z i) (fun q hq => by
          show (if i < i then Z i q else M i q) * (if x < i then Z x x else M x x) - (if x < i then Z x q else M x q) * (if i < i then Z i x else M i x) = p * Z i q ∧ _
          rw [hMx x (by omega), hMx q hq, if_neg (Nat.lt_irrefl i), if_neg (Nat.lt_irrefl i)]
          exact hz i q hi c hq)
        rw [ob_1t k1]
        refine ⟨S', ⟨cM_cg k2 (fun r q hr hq => ?_), fr_tr g2 k3⟩, rfl⟩
        show (if r < i + 1 then Z r q else M r q) = if r = i then Z i q else if r < i then Z r q else M r q
        by_cases d : r = i
        · rw [if_pos (by omega), if_pos d, d]
        · rw [if_neg d]
          by_cases d2 : r < i
          · rw [if_pos d2, if_pos (by omega)]
          · rw [if_neg d2, if_neg (by omega)]))
    n 0 1000 S (by omega) (by omega) ⟨cM_cg U (fun r q _ _ => if_neg (Nat.not_lt_zero r)), fr_rf⟩
  exact ⟨s, e, h1, h2⟩
theorem c_invertRows (hb : bk_ok β) (hk : pk β ≤ 18) (hj : j < 2) (e39 : st_i S (39 + 2 * j) = nI (bk_n β)) (U : cM S j (bk_n β) (ce β 0)) : ∃ S', fX1_invertRows j S = some S' ∧ cM S' j (bk_n β) (ce β (um β)) ∧ st_j S' j = iL (bt β) ∧ fr no (fun k => k = j) no (fun a => 4 + 8 * j ≤ a ∧ a < 12 + 8 * j) S S' := by
  have hn := hb.2.1
  obtain ⟨s, e, h1, h2, h3⟩ := lp_up (fun f i (s : Int64 × RSt) => fX1_invertRows_L4 j f s.1 (nI i) s.2) (fun i s => s.1 = iL (dJ β (ui β i)).2 ∧ cM s.2 j (bk_n β) (ce β (ui β i)) ∧ fV j S s.2) (bk_n β) (fun s => s.1 = iL (bt β) ∧ cM s.2 j (bk_n β) (ce β (um β)) ∧ fV j S s.2)
    (fun f s hs => ⟨s, by
      show fX1_invertRows_L4 j (f + 1) s.1 (nI (bk_n β)) s.2 = some s
      rw [fX1_invertRows_L4, hs.2.2.1 _ (fun z => z), e39, if_pos (nI_le (Nat.le_refl _) (by omega))], hs⟩)
    (fun f i s hi hs => Or.inr (by
      obtain ⟨x1, s⟩ := s
      obtain ⟨g1, g2, g3⟩ := hs
      have g1 : x1 = iL (dJ β (ui β i)).2 := g1
      have g2 : cM s j (bk_n β) (ce β (ui β i)) := g2
      have g3 : fV j S s := g3
      show ∃ s' : Int64 × RSt, _ ∧ fX1_invertRows_L4 j (f + 1) x1 (nI i) s = fX1_invertRows_L4 j f s'.1 (nI (i + 1)) s'.2
      have u := ui_um (β := β) (x := i) (by omega)
      have p := dJ_p hb hk u
      have px := ce_px hb hk hi
      obtain ⟨S', k1, k2, k3⟩ := c_pivot (j := j) hn ((g3.1 _ (fun z => z)).trans e39) g2 hi (p := (dJ β (ui β i)).2) p.1 (by omega) (Z := ce β (ui β (i + 1))) (fun r q hr hne hq => by
        have st := ce_step hb hk hi hr hne hq
        refine ⟨st, ?_⟩
        rw [← st]
        have b1 := ce_b hb hk u hr hq
        have b2 := px.1 i (by omega)
        have b3 := px.1 q hq
        have b4 := ce_b hb hk u hr (show i < 2 * bk_n β by omega)
        have m1 := i_mul_b b1.1 b1.2 b2.1 b2.2
        have m2 := i_mul_b b3.1 b3.2 b4.1 b4.2
        omega) (fun q hq => ce_piv hi)
      rw [fX1_invertRows_L4, g3.1 _ (fun z => z), e39, if_neg (nI_ge (b := bk_n β) hi (by omega)), g1, ob_1t k1, ob_in_t (vp_in_nI (show i < 8 by omega) (by decide)), ob_in_t (vp_in_nI (show i < 16 by omega) (by decide)), nI_clamp (by omega), k2 i i hi (by omega), ce_piv hi, px.2, nI_1]
      exact ⟨(_, S'), ⟨rfl, k2, fr_tr g3 k3⟩, rfl⟩))
    (bk_n β) 0 1000 ((1 : Int64), S) (by omega) (by omega) ⟨rfl, U, fr_rf⟩
  obtain ⟨x1, s⟩ := s
  unfold fX1_invertRows
  have e : fX1_invertRows_L4 j 1000 (1 : Int64) (0 : Int32) S = some (x1, s) := e
  rw [ob_2t e]
  refine ⟨_, rfl, fun r q hr hq => ?_, ?_, ?_⟩
  · rw [st_g_sj]
    exact h2 r q hr hq
  · rw [st_j_eq]
    exact h1
  · exact fr_tr (fr_mo h3 (fun _ z => z) (fun _ z => z.elim) (fun _ z => z) (fun _ z => z)) (fr_sj rfl)
theorem c_writeTops (hb : bk_ok β) (hj : j < 2) (e39 : st_i S (39 + 2 * j) = nI (bk_n β)) (U : cM S j (bk_n β) (ce β (um β))) (G : cU S j (bk_n β) (fun r => if pt β r = r then 0 else dG β (ui β r))) : ∃ S', fX1_writeTops j S = some S' ∧ (∀ m, m < bk_n β → st_g S' j m = iL (tp β m)) ∧ fr no no no (fun a => a = j) S S' := by
  have hn := hb.2.1
  obtain ⟨s, e, h1, h2⟩ := lp_up (fun f i s => fX1_writeTops_L2 j f (nI i) s) (fun i s => (∀ m, m < i → st_g s j m = iL (tp β m)) ∧ fr no no no (fun a => a = j) S s) (bk_n β) (fun s => (∀ m, m < bk_n β → st_g s j m = iL (tp β m)) ∧ fr no no no (fun a => a = j) S s)
    (fun f s hs => ⟨s, by
      show fX1_writeTops_L2 j (f + 1) (nI (bk_n β)) s = some s
      rw [fX1_writeTops_L2, hs.2.1 _ (fun z => z), e39, if_pos (nI_le (Nat.le_refl _) (by omega))], hs⟩)
    (fun f i s hi hs => Or.inr (by
      obtain ⟨g1, g2⟩ := hs
      show ∃ s', _ ∧ fX1_writeTops_L2 j (f + 1) (nI i) s = fX1_writeTops_L2 j f (nI (i + 1)) s'
      have es : st_i s (39 + 2 * j) = nI (bk_n β) := (g2.1 _ (fun z => z)).trans e39
      obtain ⟨r, e5, k1⟩ := lp_up (fun f o (v : Int64 × RSt) => fX1_writeTops_L15 j f (nI i) v.1 (nI o) v.2) (fun o v => v = (iL (sm o (fun o => ce β (um β) i (bk_n β + o) * if pt β o = o then 0 else dG β (ui β o))), s)) (bk_n β) (fun v => v = (iL (sm (bk_n β) (fun o => ce β (um β) i (bk_n β + o) * if pt β o = o then 0 else dG β (ui β o))), s))
        (fun f v hv => ⟨v, by
          subst hv
          show fX1_writeTops_L15 j (f + 1) (nI i) _ (nI (bk_n β)) s = _
          rw [fX1_writeTops_L15, es, if_pos (nI_le (Nat.le_refl _) (by omega))], hv⟩)
        (fun f o v ho hv => Or.inr (by
          subst hv
          show ∃ v' : Int64 × RSt, _ ∧ fX1_writeTops_L15 j (f + 1) (nI i) (iL _) (nI o) s = fX1_writeTops_L15 j f (nI i) v'.1 (nI (o + 1)) v'.2
          refine ⟨_, rfl, ?_⟩
          rw [fX1_writeTops_L15, es, if_neg (nI_ge (b := bk_n β) ho (by omega)), nI_add, ob_in_t (vp_in_nI (show i < 8 by omega) (by decide)), ob_in_t (vp_in_nI (show bk_n β + o < 16 by omega) (by decide)), ob_in_t (vp_in_nI (show o < 8 by omega) (by decide)), nI_clamp (by omega), nI_clamp (by omega), nI_clamp (by omega), g2.2.2.2 _ (show ¬ 4 + 8 * j + i = j by omega), g2.2.2.2 _ (show ¬ 2 + j = j by omega), U i (bk_n β + o) hi (by omega), G o ho, iL_mul, iL_add, nI_1, sm]))
        (bk_n β) 0 1000 ((0 : Int64), s) (by omega) (by omega) rfl
      have e5 : fX1_writeTops_L15 j 1000 (nI i) (0 : Int64) (0 : Int32) s = some r := e5
      rw [k1] at e5
      have val : sm (bk_n β) (fun o => ce β (um β) i (bk_n β + o) * if pt β o = o then 0 else dG β (ui β o)) = tp β i := by
        by_cases c : pt β i = i
        · rw [tp_fi c]
          refine sm_zero (fun o ho => ?_)
          by_cases d : pt β o = o
          · rw [if_pos d]
            omega
          · rw [ce_f c]
            unfold cq
            rw [if_neg (show ¬ bk_n β + o < bk_n β by omega), if_neg (show ¬ bk_n β + o - bk_n β = i by
              intro z
              have : o = i := by omega
              exact d (by rw [this]; exact c))]
            omega
        · rw [tp_un hi c, sm_congr (g := fun o => if pt β o = o then 0 else dX β (ui β i) (ui β o) * dG β (ui β o)) (fun o ho => ?_), sm_un (fun b => dX β (ui β i) b * dG β b)]
          · rfl
          · by_cases d : pt β o = o
            · rw [if_pos d, if_pos d]
              omega
            · rw [if_neg d, if_neg d, ce_u c]
              unfold cq cc
              rw [if_neg (show ¬ bk_n β + o < bk_n β by omega), show bk_n β + o - bk_n β = o by omega, if_neg d, if_neg (show ¬ bk_n β + o < bk_n β by omega)]
              rfl
      rw [val] at e5
      rw [fX1_writeTops_L2, es, if_neg (nI_ge (b := bk_n β) hi (by omega)), ob_2t e5, ob_in_t (vp_in_nI (show i < 8 by omega) (by decide)), nI_clamp (by omega), nI_1]
      refine ⟨_, ⟨fun m hm => ?_, fr_tr g2 (fr_sg rfl)⟩, rfl⟩
      by_cases em : m = i
      · rw [sg_p rfl em, em]
      · rw [sg_n (Or.inr em), g1 m (by omega)]))
    (bk_n β) 0 1000 S (by omega) (by omega) ⟨fun m hm => absurd hm (Nat.not_lt_zero m), fr_rf⟩
  unfold fX1_writeTops
  have e : fX1_writeTops_L2 j 1000 (0 : Int32) S = some s := e
  rw [ob_1t e]
  exact ⟨s, rfl, h1, h2⟩
/-- a fit stands over a book -/
def FO (S : RSt) (j : Nat) (β : BK) : Prop := cQ S j (bk_n β) (pt β) ∧ cP S j β (pk β) (pF β) ∧ st_j S j = iL (bt β) ∧ ∀ m, m < bk_n β → st_g S j m = iL (tp β m)
def fS (j : Nat) : RSt → RSt → Prop := fr (fun k => k = 39 + 2 * j ∨ k = 40 + 2 * j) (fun k => k = j) (fun a => a = 26 + j ∨ (28 + 42 * j ≤ a ∧ a < 70 + 42 * j)) (fun a => a = j ∨ a = 2 + j ∨ (4 + 8 * j ≤ a ∧ a < 12 + 8 * j))
theorem c_solve {u : Nat} (hj : j < 2) (hu : u < 13) (B : cB S u β) (hc : bk_c β ≤ 19) : ∃ S', fX1_solve j u S = some S' ∧ FO S' j β ∧ fS j S S' := by
  have hb := B.1
  have hn := hb.2.1
  have hk : pk β ≤ 18 := by
    have := pk_c hb
    omega
  unfold fX1_solve
  have f0 : fr (fun k => k = 39 + 2 * j) no no no S (st_si S (39 + 2 * j) (st_i S (3 * u))) := fr_si rfl
  have B0 : cB (st_si S (39 + 2 * j) (st_i S (3 * u))) u β := cB_fr B f0 (by omega) (by omega) (by omega) (fun z => z) (fun z => z)
  obtain ⟨S1, e1, P1, F1⟩ := c_listPairs (j := j) hu B0 hc (by rw [st_i_eq]; exact B.2.1)
  have s1 : fS j S S1 := fr_tr (fr_mo f0 (fun _ z => Or.inl z) (fun _ z => z.elim) (fun _ z => z.elim) (fun _ z => z.elim)) (fr_mo F1 (fun _ z => Or.inr z) (fun _ z => z.elim) (fun _ z => Or.inr z) (fun _ z => z.elim))
  have e39 : st_i S1 (39 + 2 * j) = nI (bk_n β) := by
    rw [F1.1 _ (by omega), st_i_eq]
    exact B.2.1
  rw [ob_1t e1]
  obtain ⟨S2, e2, T2, F2⟩ := c_joinParts (j := j) hn (by omega) e39 P1 (pF_8 (Nat.le_refl _))
  have s2 : fS j S1 S2 := fr_mo F2 (fun _ z => z.elim) (fun _ z => z.elim) (fun _ z => Or.inl z) (fun _ z => z.elim)
  have Q2 : cQ S2 j (bk_n β) (pt β) := ⟨by rw [F2.1 _ (fun z => z)]; exact e39, T2⟩
  have P2 : cP S2 j β (pk β) (pF β) := ⟨by rw [F2.1 _ (fun z => z)]; exact P1.1, fun i hi => by rw [F2.2.2.1 _ (by omega)]; exact P1.2 i hi⟩
  rw [ob_1t e2]
  obtain ⟨S3, e3, U3, G3, F3⟩ := c_writeRows hb hk hj Q2 P2
  have s3 : fS j S2 S3 := fr_mo F3 (fun _ z => z.elim) (fun _ z => z.elim) (fun _ z => z.elim) (fun _ z => Or.inr z)
  have Q3 := cQ_fW Q2 F3
  have P3 := cP_fW P2 F3
  rw [ob_1t e3]
  obtain ⟨S4, e4, U4, J4, F4⟩ := c_invertRows hb hk hj Q3.1 U3
  have s4 : fS j S3 S4 := fr_mo F4 (fun _ z => z.elim) (fun _ z => z) (fun _ z => z.elim) (fun _ z => Or.inr (Or.inr z))
  have G4 := cU_fr G3 F4 (by omega)
  have e39' : st_i S4 (39 + 2 * j) = nI (bk_n β) := by rw [F4.1 _ (fun z => z)]; exact Q3.1
  rw [ob_1t e4]
  obtain ⟨S5, e5, T5, F5⟩ := c_writeTops hb hj e39' U4 G4
  have s5 : fS j S4 S5 := fr_mo F5 (fun _ z => z.elim) (fun _ z => z.elim) (fun _ z => z.elim) (fun _ z => Or.inl z)
  rw [ob_1t e5]
  refine ⟨S5, rfl, ⟨⟨by rw [F5.1 _ (fun z => z)]; exact e39', fun m hm => by rw [F5.2.2.1 _ (fun z => z), F4.2.2.1 _ (fun z => z)]; exact Q3.2 m hm⟩, ⟨by rw [F5.1 _ (fun z => z), F4.1 _ (fun z => z)]; exact P3.1, fun i hi => by rw [F5.2.2.1 _ (fun z => z), F4.2.2.1 _ (fun z => z)]; exact P3.2 i hi⟩, by rw [F5.2.1 _ (fun z => z)]; exact J4, T5⟩, fr_tr s1 (fr_tr s2 (fr_tr s3 (fr_tr s4 s5)))⟩
end CSV
