/-! How the reference solves: by unknown months alone. -/
def me (β : BK) (k a b : Nat) : Int := if b < 7 then (if b < um β then (dJ β k).1 a b else 0) else if b - 7 < um β then (dJ β k).1 a (um β + (b - 7)) else 0
def mM (S : RSt) (β : BK) (M : Nat → Nat → Int) : Prop := ∀ a b, a < um β → b < 14 → st_g S 0 (14 * a + b) = iL (M a b)
def mU (S : RSt) (β : BK) (G : Nat → Int) : Prop := ∀ a, a < um β → st_g S 1 a = iL (G a)
def mN (S : RSt) (β : BK) : Prop := st_i S 14 = nI (um β) ∧ ∀ a, a < um β → st_a S 10 a = nI (uU β a)
theorem mM_cg {S : RSt} {β : BK} {M M' : Nat → Nat → Int} (h : mM S β M) (e : ∀ a b, a < um β → b < 14 → M' a b = M a b) : mM S β M' := fun a b ha hb => by rw [e a b ha hb]; exact h a b ha hb
theorem mU_cg {S : RSt} {β : BK} {M M' : Nat → Int} (h : mU S β M) (e : ∀ a, a < um β → M' a = M a) : mU S β M' := fun a ha => by rw [e a ha]; exact h a ha
theorem mN_fr {S S' : RSt} {β : BK} {I J A G : Nat → Prop} (h : mN S β) (f : fr I J A G S S') (h1 : ¬ I 14) (h2 : ¬ A 10) : mN S' β := ⟨by rw [f.1 _ h1]; exact h.1, fun a ha => by rw [f.2.2.1 _ h2]; exact h.2 a ha⟩
theorem mP_fr {S S' : RSt} {β : BK} {k : Nat} {F : PF} {I J A G : Nat → Prop} (h : mP S β k F) (f : fr I J A G S S') (h1 : ¬ I 13) (h2 : ∀ a, 4 ≤ a → a < 9 → ¬ A a) : mP S' β k F := ⟨by rw [f.1 _ h1]; exact h.1, fun i hi => by
  rw [f.2.2.1 _ (h2 4 (by omega) (by omega)), f.2.2.1 _ (h2 5 (by omega) (by omega)), f.2.2.1 _ (h2 6 (by omega) (by omega)), f.2.2.1 _ (h2 7 (by omega) (by omega)), f.2.2.1 _ (h2 8 (by omega) (by omega))]
  exact h.2 i hi⟩
def gG : RSt → RSt → Prop := fr no no no (fun a => a < 3)
section MSV
variable {S : RSt} {β : BK}
theorem me_b (hb : bk_ok β) (hk : pk β ≤ 18) {k a b : Nat} (h : k ≤ um β) (ha : a < um β) : -14495514624 ≤ me β k a b ∧ me β k a b ≤ 14495514624 := by
  unfold me
  by_cases c : b < 7
  · rw [if_pos c]
    by_cases d : b < um β
    · rw [if_pos d]
      exact dJ_q hb hk h ha (by omega)
    · rw [if_neg d]
      omega
  · rw [if_neg c]
    by_cases d : b - 7 < um β
    · rw [if_pos d]
      exact dJ_q hb hk h ha (by omega)
    · rw [if_neg d]
      omega
theorem me_k (hb : bk_ok β) (hk : pk β ≤ 18) {k b : Nat} (h : k < um β) : -268435456 ≤ me β k k b ∧ me β k k b ≤ 268435456 := by
  unfold me
  by_cases c : b < 7
  · rw [if_pos c]
    by_cases d : b < um β
    · rw [if_pos d]
      exact dJ_k hb hk h (by omega)
    · rw [if_neg d]
      omega
  · rw [if_neg c]
    by_cases d : b - 7 < um β
    · rw [if_pos d]
      exact dJ_k hb hk h (by omega)
    · rw [if_neg d]
      omega
theorem me_step (hb : bk_ok β) (hk : pk β ≤ 18) {k a b : Nat} (h : k < um β) (ha : a < um β) (hne : a ≠ k) : me β k k k * me β k a b - me β k a k * me β k k b = (dJ β k).2 * me β (k + 1) a b := by
  have u := (um_le hb).1
  have I := (dJ_IB hb (k := k) (by omega)).1
  have p := dJ_p hb hk (k := k) (by omega)
  have e1 : ∀ x, me β k x k = (dJ β k).1 x k := fun x => by
    unfold me
    rw [if_pos (by omega), if_pos h]
  rw [e1, e1]
  have ex : ∀ q, (dJ β k).2 * (dJ β (k + 1)).1 a q = (dJ β k).1 k k * (dJ β k).1 a q - (dJ β k).1 a k * (dJ β k).1 k q := fun q => gj_ex (q := q) h (by omega) I ha hne
  unfold me
  by_cases c : b < 7
  · rw [if_pos c, if_pos c, if_pos c]
    by_cases d : b < um β
    · rw [if_pos d, if_pos d, if_pos d, ex]
    · rw [if_neg d, if_neg d, if_neg d]
      omega
  · rw [if_neg c, if_neg c, if_neg c]
    by_cases d : b - 7 < um β
    · rw [if_pos d, if_pos d, if_pos d, ex]
    · rw [if_neg d, if_neg d, if_neg d]
      omega
theorem me_piv {k b : Nat} : me β (k + 1) k b = me β k k b := by
  have e : ∀ q, (dJ β (k + 1)).1 k q = (dJ β k).1 k q := fun q => by
    show gj_st k (dJ β k).1 (dJ β k).2 k q = _
    unfold gj_st
    rw [if_pos rfl]
  unfold me
  rw [e, e]
theorem ix14 {a b : Nat} : (14 : Int32) * nI a + nI b = nI (14 * a + b) := by
  rw [show (14 : Int32) = nI 14 from rfl, pk_mul, nI_add]
theorem m_clear (hum : um β ≤ 7) {M : Nat → Nat → Int} (U : mM S β M) {r k : Nat} (hr : r < um β) (hk : k < um β) (hne : r ≠ k) {p : Int} (hp : 0 < p) (hp2 : p < 9223372036854775808) (ej : st_j S 1 = iL p) {Z : Nat → Int} (hz : ∀ q, q < 14 → M k k * M r q - M r k * M k q = p * Z q ∧ -9223372036854775808 < p * Z q ∧ p * Z q < 9223372036854775808) : ∃ S', fX5_inverts_L65 1000 (nI k) (iL (M k k)) (nI r) (iL (M r k)) 0 S = some S' ∧ mM S' β (fun a q => if a = r then Z q else M a q) ∧ fr no no no (fun a => a = 0) S S' := by
  obtain ⟨s, e, h1, h2⟩ := lp_up (fun f i s => fX5_inverts_L65 f (nI k) (iL (M k k)) (nI r) (iL (M r k)) (nI i) s) (fun i s => mM s β (fun a q => if a = r ∧ q < i then Z q else M a q) ∧ fr no no no (fun a => a = 0) S s) 14 (fun s => mM s β (fun a q => if a = r then Z q else M a q) ∧ fr no no no (fun a => a = 0) S s)
    (fun f s hs => ⟨s, by
      show fX5_inverts_L65 (f + 1) (nI k) (iL (M k k)) (nI r) (iL (M r k)) (nI 14) s = some s
      rw [fX5_inverts_L65, if_pos (show (14 : Int32) ≤ nI 14 by decide)], mM_cg hs.1 (fun a q ha hq => by
      by_cases c : a = r
      · rw [if_pos c, if_pos ⟨c, hq⟩]
      · rw [if_neg c, if_neg (fun z => c z.1)]), hs.2⟩)
    (fun f i s hi hs => Or.inr (by
      obtain ⟨g1, g2⟩ := hs
      show ∃ s', _ ∧ fX5_inverts_L65 (f + 1) (nI k) (iL (M k k)) (nI r) (iL (M r k)) (nI i) s = fX5_inverts_L65 f (nI k) (iL (M k k)) (nI r) (iL (M r k)) (nI (i + 1)) s'
      obtain ⟨z1, z2, z3⟩ := hz i hi
      have gr : st_g s 0 (14 * r + i) = iL (if r = r ∧ i < i then Z i else M r i) := g1 r i hr hi
      rw [if_neg (fun z => Nat.lt_irrefl i z.2)] at gr
      have gk : st_g s 0 (14 * k + i) = iL (if k = r ∧ i < i then Z i else M k i) := g1 k i hk hi
      rw [if_neg (fun z => hne z.1.symm)] at gk
      have ir : vp_in (nI (14 * r + i)) 98 := vp_in_nI (by omega) (by decide)
      rw [fX5_inverts_L65, if_neg (show ¬ (14 : Int32) ≤ nI i from nI_ge (b := 14) hi (by decide)), ix14, ix14, ob_in_t ir, ob_in_t (vp_in_nI (show 14 * k + i < 98 by omega) (by decide)), g2.2.1 1 (fun z => z), ej, ob_nz_t (fun z => absurd ((iL_eq (y := 0) (by omega) (by omega) (by omega) (by omega)).mp z) (by omega)), ob_in_t ir, nI_clamp (by omega), nI_clamp (by omega), gr, gk, iL_mul, iL_mul, iL_sub, z1, iL_div z2 z3 hp hp2 rfl, nI_1]
      refine ⟨_, ⟨fun a q ha hq => ?_, fr_tr g2 (fr_sg rfl)⟩, rfl⟩
      show _ = iL (if a = r ∧ q < i + 1 then Z q else M a q)
      by_cases c : a = r ∧ q = i
      · rw [sg_p rfl (by rw [c.1, c.2]), if_pos ⟨c.1, by omega⟩, c.2]
      · rw [sg_n (Or.inr (by omega)), g1 a q ha hq]
        show iL (if a = r ∧ q < i then Z q else M a q) = _
        by_cases d : a = r ∧ q < i
        · rw [if_pos d, if_pos ⟨d.1, by omega⟩]
        · rw [if_neg d, if_neg (by omega)]))
    14 0 1000 S (by omega) (by omega) ⟨mM_cg U (fun a q _ _ => if_neg (fun z => Nat.not_lt_zero q z.2)), fr_rf⟩
  exact ⟨s, e, h1, h2⟩
theorem m_pivot (hum : um β ≤ 7) (e14 : st_i S 14 = nI (um β)) {M : Nat → Nat → Int} (U : mM S β M) {k : Nat} (hk : k < um β) {p : Int} (hp : 0 < p) (hp2 : p < 9223372036854775808) (ej : st_j S 1 = iL p) {Z : Nat → Nat → Int} (hz : ∀ r q, r < um β → r ≠ k → q < 14 → M k k * M r q - M r k * M k q = p * Z r q ∧ -9223372036854775808 < p * Z r q ∧ p * Z r q < 9223372036854775808) (hkz : ∀ q, q < 14 → Z k q = M k q) : ∃ S', fX5_inverts_L30 1000 (nI k) (iL (M k k)) 0 S = some S' ∧ mM S' β Z ∧ fr no no no (fun a => a = 0) S S' := by
  obtain ⟨s, e, h1, h2⟩ := lp_up (fun f i s => fX5_inverts_L30 f (nI k) (iL (M k k)) (nI i) s) (fun i s => mM s β (fun r q => if r < i then Z r q else M r q) ∧ fr no no no (fun a => a = 0) S s) (um β) (fun s => mM s β Z ∧ fr no no no (fun a => a = 0) S s)
    (fun f s hs => ⟨s, by
      show fX5_inverts_L30 (f + 1) (nI k) (iL (M k k)) (nI (um β)) s = some s
      rw [fX5_inverts_L30, hs.2.1 _ (fun z => z), e14, if_pos (nI_le (Nat.le_refl _) (by omega))], mM_cg hs.1 (fun r q hr _ => (if_pos hr).symm), hs.2⟩)
    (fun f i s hi hs => Or.inr (by
      obtain ⟨g1, g2⟩ := hs
      show ∃ s', _ ∧ fX5_inverts_L30 (f + 1) (nI k) (iL (M k k)) (nI i) s = fX5_inverts_L30 f (nI k) (iL (M k k)) (nI (i + 1)) s'
      rw [fX5_inverts_L30, g2.1 _ (fun z => z), e14, if_neg (nI_ge (b := um β) hi (by omega)), nI_1]
      by_cases c : i = k
      · subst c
        rw [if_pos rfl]
        refine ⟨s, ⟨mM_cg g1 (fun r q hr hq => ?_), g2⟩, rfl⟩
        show (if r < i + 1 then Z r q else M r q) = if r < i then Z r q else M r q
        by_cases d : r = i
        · subst d
          rw [if_pos (by omega), if_neg (by omega), hkz q hq]
        · by_cases d2 : r < i
          · rw [if_pos d2, if_pos (by omega)]
          · rw [if_neg d2, if_neg (by omega)]
      · have hMk : ∀ q, q < 14 → (if k < i then Z k q else M k q) = M k q := fun q hq => by
          split
          · exact hkz q hq
          · rfl
        have gi : st_g s 0 (14 * i + k) = iL (if i < i then Z i k else M i k) := g1 i k hi (by omega)
        rw [if_neg (Nat.lt_irrefl i)] at gi
        obtain ⟨S', k1, k2, k3⟩ := m_clear hum g1 hi hk c hp hp2 ((g2.2.1 1 (fun z => z)).trans ej) (Z := Z i) (fun q hq => by
          show (if k < i then Z k k else M k k) * (if i < i then Z i q else M i q) - (if i < i then Z i k else M i k) * (if k < i then Z k q else M k q) = p * Z i q ∧ _
          rw [hMk k (by omega), hMk q hq, if_neg (Nat.lt_irrefl i), if_neg (Nat.lt_irrefl i)]
          exact hz i q hi c hq)
        have k1 : fX5_inverts_L65 1000 (nI k) (iL (if k < i then Z k k else M k k)) (nI i) (iL (if i < i then Z i k else M i k)) 0 s = some S' := k1
        rw [hMk k (by omega), if_neg (Nat.lt_irrefl i)] at k1
        rw [if_neg (fun z => c ((nI_eq (by omega) (by omega)).mp z)), ix14, ob_in_t (vp_in_nI (show 14 * i + k < 98 by omega) (by decide)), nI_clamp (by omega), gi, ob_1t k1]
        refine ⟨S', ⟨mM_cg k2 (fun r q hr hq => ?_), fr_tr g2 k3⟩, rfl⟩
        show (if r < i + 1 then Z r q else M r q) = if r = i then Z i q else if r < i then Z r q else M r q
        by_cases d : r = i
        · rw [if_pos (by omega), if_pos d, d]
        · rw [if_neg d]
          by_cases d2 : r < i
          · rw [if_pos d2, if_pos (by omega)]
          · rw [if_neg d2, if_neg (by omega)]))
    (um β) 0 1000 S (by omega) (by omega) ⟨mM_cg U (fun r q _ _ => if_neg (Nat.not_lt_zero r)), fr_rf⟩
  exact ⟨s, e, h1, h2⟩
theorem m_inverts (hb : bk_ok β) (hk : pk β ≤ 18) (e14 : st_i S 14 = nI (um β)) (U : mM S β (me β 0)) : ∃ S', fX5_inverts S = some S' ∧ mM S' β (me β (um β)) ∧ st_j S' 1 = iL (bt β) ∧ fr no (fun k => k = 1) no (fun a => a = 0) S S' := by
  have u := (um_le hb).1
  obtain ⟨s, e, h1, h2, h3⟩ := lp_up (fun f i s => fX5_inverts_L7 f (nI i) s) (fun i s => st_j s 1 = iL (dJ β i).2 ∧ mM s β (me β i) ∧ fr no (fun k => k = 1) no (fun a => a = 0) S s) (um β) (fun s => st_j s 1 = iL (bt β) ∧ mM s β (me β (um β)) ∧ fr no (fun k => k = 1) no (fun a => a = 0) S s)
    (fun f s hs => ⟨s, by
      show fX5_inverts_L7 (f + 1) (nI (um β)) s = some s
      rw [fX5_inverts_L7, hs.2.2.1 _ (fun z => z), e14, if_pos (nI_le (Nat.le_refl _) (by omega))], hs⟩)
    (fun f i s hi hs => Or.inr (by
      obtain ⟨g1, g2, g3⟩ := hs
      show ∃ s', _ ∧ fX5_inverts_L7 (f + 1) (nI i) s = fX5_inverts_L7 f (nI (i + 1)) s'
      have p := dJ_p hb hk (k := i) (by omega)
      obtain ⟨S', k1, k2, k3⟩ := m_pivot u ((g3.1 _ (fun z => z)).trans e14) g2 hi p.1 (by omega) g1 (Z := me β (i + 1)) (fun r q hr hne hq => by
        have st := me_step (b := q) hb hk hi hr hne
        refine ⟨st, ?_⟩
        rw [← st]
        have b1 := me_b (a := r) (b := q) hb hk (k := i) (by omega) hr
        have b2 := me_k (b := i) hb hk hi
        have b3 := me_k (b := q) hb hk hi
        have b4 := me_b (a := r) (b := i) hb hk (k := i) (by omega) hr
        have m1 := i_mul_b b2.1 b2.2 b1.1 b1.2
        have m2 := i_mul_b b4.1 b4.2 b3.1 b3.2
        omega) (fun q _ => me_piv)
      rw [fX5_inverts_L7, g3.1 _ (fun z => z), e14, if_neg (nI_ge (b := um β) hi (by omega)), ix14, ob_in_t (vp_in_nI (show 14 * i + i < 98 by omega) (by decide)), nI_clamp (by omega), g2 i i hi (by omega), ob_1t k1, nI_1]
      refine ⟨_, ⟨?_, fun a q ha hq => by rw [st_g_sj]; exact k2 a q ha hq, fr_tr g3 (fr_tr (fr_mo k3 (fun _ z => z) (fun _ z => z.elim) (fun _ z => z) (fun _ z => z)) (fr_sj rfl))⟩, rfl⟩
      rw [st_j_eq]
      unfold me
      rw [if_pos (by omega), if_pos hi]
      rfl))
    (um β) 0 1000 (st_sj S 1 1) (by omega) (by omega) ⟨by rw [st_j_eq]; rfl, fun a q ha hq => by rw [st_g_sj]; exact U a q ha hq, fr_sj rfl⟩
  unfold fX5_inverts
  have e : fX5_inverts_L7 1000 (0 : Int32) (st_sj S 1 1) = some s := e
  rw [ob_1t e]
  exact ⟨s, rfl, h2, h1, h3⟩
/-! Unknown months: their list, their places. -/
theorem m_unknowns (hb : bk_ok β) (e0 : st_a S 1 0 = nI (bk_n β)) (hp : ∀ m, m < bk_n β → st_a S 9 m = nI (pt β m)) : ∃ S', fX5_solves_L16 1000 0 (st_si S 14 0) = some S' ∧ mN S' β ∧ fr (fun k => k = 14) no (fun a => a = 10) no S S' := by
  have n8 := hb.2.1
  have um7 := um_le hb
  have hπ := (pt_ok (β := β) (Nat.le_refl _)).2.1
  obtain ⟨s, e, h1, h2, h3⟩ := lp_up (fun f i s => fX5_solves_L16 f (nI i) s) (fun i s => st_i s 14 = nI (ui β i) ∧ (∀ a, a < ui β i → st_a s 10 a = nI ((uu (pt β) i).2 a)) ∧ fr (fun k => k = 14) no (fun a => a = 10) no S s) (bk_n β) (fun s => st_i s 14 = nI (um β) ∧ (∀ a, a < um β → st_a s 10 a = nI (uU β a)) ∧ fr (fun k => k = 14) no (fun a => a = 10) no S s)
    (fun f s hs => ⟨s, by
      show fX5_solves_L16 (f + 1) (nI (bk_n β)) s = some s
      rw [fX5_solves_L16, ob_in_t (in0 (by decide)), cl0, hs.2.2.2.2.1 1 (by decide), e0, if_pos (nI_le (Nat.le_refl _) (by omega))], hs⟩)
    (fun f i s hi hs => Or.inr (by
      obtain ⟨g1, g2, g3⟩ := hs
      show ∃ s', _ ∧ fX5_solves_L16 (f + 1) (nI i) s = fX5_solves_L16 f (nI (i + 1)) s'
      have := hπ i hi
      rw [fX5_solves_L16, ob_in_t (in0 (by decide)), cl0, g3.2.2.1 1 (by decide), e0, if_neg (nI_ge (b := bk_n β) hi (by omega)), ob_in_t (vp_in_nI (show i < 8 by omega) (by decide)), nI_clamp (by omega), g3.2.2.1 9 (by decide), hp i hi, nI_1]
      by_cases c : pt β i = i
      · rw [if_pos (by rw [c]), ui_f c, uu_p c]
        exact ⟨s, ⟨g1, g2, g3⟩, rfl⟩
      · have u := ui_um (β := β) (x := i) (by omega)
        rw [if_neg (fun z => c ((nI_eq (by omega) (by omega)).mp z)), st_i_sa, g1, ob_in_t (vp_in_nI (show ui β i < 8 by omega) (by decide)), nI_clamp (by omega), ui_u c, uu_n c, nI_1]
        refine ⟨_, ⟨st_i_eq, fun a ha => ?_, fr_tr g3 (fr_tr (fr_sa rfl) (fr_si rfl))⟩, rfl⟩
        rw [st_a_si]
        show _ = nI (va_up (uu (pt β) i).2 (ui β i) i a)
        by_cases ea : a = ui β i
        · rw [sa_p rfl ea, ea, va_up_self]
        · rw [sa_n (Or.inr ea), va_up_ne _ _ ea, g2 a (by omega)]))
    (bk_n β) 0 1000 (st_si S 14 0) (by omega) (by omega) ⟨st_i_eq, fun a ha => absurd ha (Nat.not_lt_zero a), fr_si rfl⟩
  exact ⟨s, e, ⟨h1, h2⟩, h3⟩
theorem m_unknownOf (hb : bk_ok β) (N : mN S β) {x : Nat} (hx : x < bk_n β) : fX5_unknownOf (nI x) S = some (if pt β x = x then -1 else nI (ui β x), S) := by
  have n8 := hb.2.1
  have um7 := um_le hb
  obtain ⟨Z, e, h⟩ := lp_up (fun f i s => fX5_unknownOf_L2 f (nI x) (nI i) s) (fun i s => s = S ∧ ∀ l, l < i → uU β l ≠ x) (um β) (fun r => (r = .inr S ∧ pt β x = x) ∨ (r = .inl (nI (ui β x), S) ∧ pt β x ≠ x))
    (fun f s hs => ⟨.inr s, by
      obtain ⟨rfl, hs⟩ := hs
      show fX5_unknownOf_L2 (f + 1) (nI x) (nI (um β)) s = some (.inr s)
      rw [fX5_unknownOf_L2, N.1, if_pos (nI_le (Nat.le_refl _) (by omega))], Or.inl ⟨by rw [hs.1], by
      by_cases c : pt β x = x
      · exact c
      · obtain ⟨h1, h2⟩ := ui_ok hx c
        exact absurd h2 (hs.2 _ h1)⟩⟩)
    (fun f i s hi hs => by
      obtain ⟨rfl, hs⟩ := hs
      show (∃ r, fX5_unknownOf_L2 (f + 1) (nI x) (nI i) s = some r ∧ _) ∨ ∃ s', _ ∧ fX5_unknownOf_L2 (f + 1) (nI x) (nI i) s = fX5_unknownOf_L2 f (nI x) (nI (i + 1)) s'
      have hu := uU_ok hi
      rw [fX5_unknownOf_L2, N.1, if_neg (nI_ge (b := um β) hi (by omega)), ob_in_t (vp_in_nI (show i < 8 by omega) (by decide)), nI_clamp (by omega), N.2 i hi, nI_1]
      by_cases c : uU β i = x
      · refine Or.inl ⟨.inl (nI i, s), by rw [if_pos (by rw [c])], Or.inr ⟨?_, ?_⟩⟩
        · rw [← c, hu.2.2]
        · rw [← c]
          exact hu.2.1
      · refine Or.inr ⟨s, ⟨rfl, fun l hl => ?_⟩, by rw [if_neg (fun z => c ((nI_eq (by omega) (by omega)).mp z))]⟩
        by_cases el : l = i
        · rw [el]
          exact c
        · exact hs l (by omega))
    (um β) 0 1000 S (by omega) (by omega) ⟨rfl, fun l hl => absurd hl (Nat.not_lt_zero l)⟩
  unfold fX5_unknownOf
  have e : fX5_unknownOf_L2 1000 (nI x) (0 : Int32) S = some Z := e
  rw [ob_1t e]
  rcases h with ⟨rfl, h⟩ | ⟨rfl, h⟩
  · rw [if_pos h]
    rfl
  · rw [if_neg h]
    rfl
theorem nI_nm {a : Nat} (h : a < 2 ^ 31) : ¬ nI a = -1 := fun z => by
  have := nI_pos' h
  rw [z] at this
  exact absurd this (by decide)
theorem m_addsTo (hb : bk_ok β) {M : Nat → Nat → Int} (U : mM S β M) {x y : Nat} (hx : x < bk_n β) (hy : y < bk_n β) (v : Int) : ∃ S', fX5_addsTo (if pt β x = x then -1 else nI (ui β x)) (if pt β y = y then -1 else nI (ui β y)) (iL v) S = some S' ∧ mM S' β (fun p q => M p q + if q < um β ∧ uU β p = x ∧ uU β q = y then v else 0) ∧ fr no no no (fun a => a = 0) S S' := by
  have um7 := um_le hb
  unfold fX5_addsTo
  by_cases c : pt β x = x
  · rw [if_pos c, if_pos rfl]
    refine ⟨S, rfl, mM_cg U (fun p q hp hq => ?_), fr_rf⟩
    show M p q + _ = _
    rw [if_neg (fun z => (uU_ok hp).2.1 (by rw [z.2.1]; exact c)), Int.add_zero]
  · obtain ⟨h1, h2⟩ := ui_ok hx c
    rw [if_neg c, if_neg (nI_nm (by omega))]
    by_cases d : pt β y = y
    · rw [if_pos d, if_pos rfl]
      refine ⟨S, rfl, mM_cg U (fun p q hp hq => ?_), fr_rf⟩
      show M p q + _ = _
      rw [if_neg (fun z => (uU_ok z.1).2.1 (by rw [z.2.2]; exact d)), Int.add_zero]
    · obtain ⟨h3, h4⟩ := ui_ok hy d
      rw [if_neg d, if_neg (nI_nm (by omega)), ix14, ob_in_t (vp_in_nI (show 14 * ui β x + ui β y < 98 by omega) (by decide)), ob_in_t (vp_in_nI (show 14 * ui β x + ui β y < 98 by omega) (by decide)), nI_clamp (by omega), U _ _ h1 (by omega), iL_add]
      refine ⟨_, rfl, fun p q hp hq => ?_, fr_sg rfl⟩
      show _ = iL (M p q + if q < um β ∧ uU β p = x ∧ uU β q = y then v else 0)
      by_cases g : p = ui β x ∧ q = ui β y
      · rw [sg_p rfl (by rw [g.1, g.2]), if_pos ⟨by omega, by rw [g.1, h2], by rw [g.2, h4]⟩, g.1, g.2]
      · rw [sg_n (Or.inr (by omega)), if_neg (fun z => g ⟨uU_inj hp h1 (by rw [z.2.1, h2]), uU_inj z.1 h3 (by rw [z.2.2, h4])⟩), Int.add_zero]
        exact U p q hp hq
def mAk (β : BK) (i : Nat) : Nat → Nat → Int := fun p q => (if q = 7 + p then 1 else 0) + if q < um β then dAk β i p q else 0
theorem wp_m {P Q : Prop} [Decidable P] {a b f t : Nat} {w s m : Int} (hne : f ≠ t) : (m + if P then s + w * ((dl a t - dl a f) * (dl b t - dl b f)) else 0) = ((((m + if P then s else 0) + if P ∧ a = f ∧ b = f then w else 0) + if P ∧ a = t ∧ b = t then w else 0) + if P ∧ a = f ∧ b = t then -w else 0) + if P ∧ a = t ∧ b = f then -w else 0 := by
  have hne' : t ≠ f := fun z => hne z.symm
  by_cases hC : P
  · rw [if_pos hC, if_pos hC]
    by_cases r1 : a = f
    · subst r1
      rw [dl_p rfl, dl_n hne]
      by_cases q1 : b = a
      · subst q1
        rw [dl_p rfl, dl_n hne, if_pos ⟨hC, rfl, rfl⟩, if_neg (fun z => hne z.2.1), if_neg (fun z => hne z.2.2), if_neg (fun z => hne z.2.1)]
        omega
      · by_cases q2 : b = t
        · subst q2
          rw [dl_p rfl, dl_n hne', if_neg (fun z => q1 z.2.2), if_neg (fun z => hne z.2.1), if_pos ⟨hC, rfl, rfl⟩, if_neg (fun z => hne z.2.1)]
          omega
        · rw [dl_n q1, dl_n q2, if_neg (fun z => q1 z.2.2), if_neg (fun z => hne z.2.1), if_neg (fun z => q2 z.2.2), if_neg (fun z => hne z.2.1)]
          omega
    · by_cases r2 : a = t
      · subst r2
        rw [dl_p rfl, dl_n hne']
        by_cases q1 : b = f
        · subst q1
          rw [dl_p rfl, dl_n hne, if_neg (fun z => r1 z.2.1), if_neg (fun z => hne z.2.2), if_neg (fun z => r1 z.2.1), if_pos ⟨hC, rfl, rfl⟩]
          omega
        · by_cases q2 : b = a
          · subst q2
            rw [dl_p rfl, dl_n hne', if_neg (fun z => r1 z.2.1), if_pos ⟨hC, rfl, rfl⟩, if_neg (fun z => r1 z.2.1), if_neg (fun z => r1 z.2.2)]
            omega
          · rw [dl_n q1, dl_n q2, if_neg (fun z => r1 z.2.1), if_neg (fun z => q2 z.2.2), if_neg (fun z => r1 z.2.1), if_neg (fun z => q1 z.2.2)]
            omega
      · rw [dl_n r1, dl_n r2, if_neg (fun z => r1 z.2.1), if_neg (fun z => r2 z.2.1), if_neg (fun z => r1 z.2.1), if_neg (fun z => r2 z.2.1)]
        omega
  · rw [if_neg hC, if_neg hC, if_neg (fun z => hC z.1), if_neg (fun z => hC z.1), if_neg (fun z => hC z.1), if_neg (fun z => hC z.1)]
    omega
theorem m_pairStep (hb : bk_ok β) (hk : pk β ≤ 18) (N : mN S β) (P : mP S β (pk β) (pF β)) {i : Nat} (hi : i < pk β) (U : mM S β (mAk β i)) (G : mU S β (dGk β i)) (f : Nat) : ∃ S', fX5_solves_L140 (f + 1) (nI i) S = fX5_solves_L140 f (nI (i + 1)) S' ∧ mM S' β (mAk β (i + 1)) ∧ mU S' β (dGk β (i + 1)) ∧ fr no no no (fun a => a < 2) S S' := by
  have n8 := hb.2.1
  have um7 := um_le hb
  obtain ⟨_, v1, v2⟩ := pF_v hi
  obtain ⟨p0, p1, p2, p3, p4⟩ := P.2 i hi
  have wt := rwt_t hb i
  have rt := rs_t hb i
  have w := dW_b hb i
  have wn : (-(nI (rw1 β (pF β i)))).toInt = - dW β i := i32_neg wt (by omega) (by omega)
  have i48 : vp_in (nI i) 48 := vp_in_nI (show i < 48 by omega) (by decide)
  have F0 : ∀ {T T' : RSt}, fr no no no (fun a => a = 0) T T' → fr no no no (fun a => a < 2) T T' := fun h => fr_mo h (fun _ z => z) (fun _ z => z) (fun _ z => z) (fun _ z => by omega)
  rw [fX5_solves_L140, P.1, if_neg (nI_ge (b := pk β) hi (by omega)), ob_in_t i48, nI_clamp (by omega), p1, ob_2t (m_unknownOf hb N (by omega)), ob_in_t i48, p2, ob_2t (m_unknownOf hb N v2), ob_in_t i48, p4, i32_l, i32_l, wt, wn, nI_1]
  obtain ⟨S1, e1, g1, f1⟩ := m_addsTo hb U (x := (pF β i).2.1) (y := (pF β i).2.1) (by omega) (by omega) (dW β i)
  rw [ob_1t e1]
  obtain ⟨S2, e2, g2, f2⟩ := m_addsTo hb g1 (x := (pF β i).2.2) (y := (pF β i).2.2) v2 v2 (dW β i)
  rw [ob_1t e2]
  obtain ⟨S3, e3, g3, f3⟩ := m_addsTo hb g2 (x := (pF β i).2.1) (y := (pF β i).2.2) (by omega) v2 (- dW β i)
  rw [ob_1t e3]
  obtain ⟨S4, e4, g4, f4⟩ := m_addsTo hb g3 (x := (pF β i).2.2) (y := (pF β i).2.1) v2 (by omega) (- dW β i)
  rw [ob_1t e4]
  have F4 : fr no no no (fun a => a < 2) S S4 := F0 (fr_tr f1 (fr_tr f2 (fr_tr f3 f4)))
  have G4 : mU S4 β (dGk β i) := fun a ha => by
    rw [f4.2.2.2 1 (by decide), f3.2.2.2 1 (by decide), f2.2.2.2 1 (by decide), f1.2.2.2 1 (by decide)]
    exact G a ha
  have U4 : mM S4 β (mAk β (i + 1)) := mM_cg g4 (fun p q hp hq => by
    unfold mAk dAk
    rw [sm]
    exact wp_m (P := q < um β) (Q := True) (by omega))
  have q7 : ∀ T : RSt, fr no no no (fun a => a < 2) S T → st_a T 7 i = rs β (pF β i) := fun T h => by rw [h.2.2.1 _ (fun z => z), p3]
  -- the right side: from
  have key : ∀ (T : RSt) (g : Nat → Int) (y : Nat) (hy : y < bk_n β), mU T β g → ∀ (o : Int64) (z : Int), o = iL z → ∀ (hne : pt β y ≠ y), mU (st_sg T 1 (ui β y) o) β (fun a => if uU β a = y then z else g a) := fun T g y hy hT o z ho hne a ha => by
    obtain ⟨h1, h2⟩ := ui_ok hy hne
    show _ = iL (if uU β a = y then z else g a)
    by_cases ea : a = ui β y
    · rw [sg_p rfl ea, if_pos (by rw [ea, h2]), ho]
    · rw [sg_n (Or.inr ea), if_neg (fun q => ea (uU_inj ha h1 (by rw [q, h2])))]
      exact hT a ha
  have hft : (pF β i).2.1 ≠ (pF β i).2.2 := by omega
  have tail : ∀ (T : RSt), fr no no no (fun a => a < 2) S T → mM T β (mAk β (i + 1)) → mU T β (fun a => if uU β a = (pF β i).2.1 then dGk β i a - dW β i * dR β i else dGk β i a) → ∃ S', (if (if pt β (pF β i).2.2 = (pF β i).2.2 then (-1 : Int32) else nI (ui β (pF β i).2.2)) = (-1 : Int32) then fX5_solves_L140 f (nI (i + 1)) T else (ob_in (if pt β (pF β i).2.2 = (pF β i).2.2 then (-1 : Int32) else nI (ui β (pF β i).2.2)) 8 (ob_in (nI i) 48 (ob_in (if pt β (pF β i).2.2 = (pF β i).2.2 then (-1 : Int32) else nI (ui β (pF β i).2.2)) 8 (fX5_solves_L140 f (nI (i + 1)) (st_sg T 1 (if pt β (pF β i).2.2 = (pF β i).2.2 then (-1 : Int32) else nI (ui β (pF β i).2.2)).toNatClampNeg ((st_g T 1 (if pt β (pF β i).2.2 = (pF β i).2.2 then (-1 : Int32) else nI (ui β (pF β i).2.2)).toNatClampNeg) + iL (dW β i) * (st_a T 7 i).toInt64))))))) = fX5_solves_L140 f (nI (i + 1)) S' ∧ mM S' β (mAk β (i + 1)) ∧ mU S' β (dGk β (i + 1)) ∧ fr no no no (fun a => a < 2) S S' := fun T hT hM hU => by
    by_cases d : pt β (pF β i).2.2 = (pF β i).2.2
    · rw [if_pos d, if_pos rfl]
      refine ⟨T, rfl, hM, mU_cg hU (fun a ha => ?_), hT⟩
      show dGk β (i + 1) a = if uU β a = (pF β i).2.1 then dGk β i a - dW β i * dR β i else dGk β i a
      unfold dGk
      rw [sm]
      unfold dD
      rw [dl_n (fun q => (uU_ok ha).2.1 (by rw [q]; exact d))]
      unfold dl
      split <;> grind
    · obtain ⟨h1, h2⟩ := ui_ok v2 d
      rw [if_neg d, if_neg (nI_nm (by omega)), ob_in_t (vp_in_nI (show ui β (pF β i).2.2 < 8 by omega) (by decide)), ob_in_t i48, ob_in_t (vp_in_nI (show ui β (pF β i).2.2 < 8 by omega) (by decide)), nI_clamp (by omega), q7 T hT, i32_l, rt, iL_mul, hU _ h1, iL_add]
      refine ⟨_, rfl, fun p q hp hq => by rw [sg_n (Or.inl (by decide))]; exact hM p q hp hq, mU_cg (key T _ _ v2 hU _ _ rfl d) (fun a ha => ?_), fr_tr hT (fr_sg (by decide))⟩
      show dGk β (i + 1) a = if uU β a = (pF β i).2.2 then (if uU β (ui β (pF β i).2.2) = (pF β i).2.1 then dGk β i (ui β (pF β i).2.2) - dW β i * dR β i else dGk β i (ui β (pF β i).2.2)) + dW β i * dR β i else if uU β a = (pF β i).2.1 then dGk β i a - dW β i * dR β i else dGk β i a
      have e : dGk β (i + 1) a = dGk β i a + dW β i * (dR β i * dD β i a) := rfl
      rw [e, h2, if_neg (show ¬ (pF β i).2.2 = (pF β i).2.1 from fun q => hft q.symm)]
      by_cases ea : uU β a = (pF β i).2.2
      · have : a = ui β (pF β i).2.2 := uU_inj ha h1 (by rw [ea, h2])
        rw [if_pos ea, ← this]
        unfold dD
        rw [dl_p ea, dl_n (by omega)]
        grind
      · rw [if_neg ea]
        unfold dD
        rw [dl_n ea]
        unfold dl
        split <;> grind
  by_cases c : pt β (pF β i).2.1 = (pF β i).2.1
  · rw [if_pos c] at *
    rw [ob_jp rfl]
    refine tail S4 F4 U4 (mU_cg G4 (fun a ha => ?_))
    show (if uU β a = (pF β i).2.1 then _ else _) = _
    rw [if_neg (fun q => (uU_ok ha).2.1 (by rw [q]; exact c))]
  · obtain ⟨h1, h2⟩ := ui_ok (show (pF β i).2.1 < bk_n β by omega) c
    rw [if_neg c] at *
    rw [ob_jn (nI_nm (by omega)), ob_in_t (vp_in_nI (show ui β (pF β i).2.1 < 8 by omega) (by decide)), ob_in_t i48, ob_in_t (vp_in_nI (show ui β (pF β i).2.1 < 8 by omega) (by decide)), nI_clamp (by omega), q7 S4 F4, i32_l, rt, iL_mul, G4 _ h1, iL_sub]
    refine tail _ (fr_tr F4 (fr_sg (by decide))) (fun p q hp hq => by rw [sg_n (Or.inl (by decide))]; exact U4 p q hp hq) (mU_cg (key S4 _ _ (by omega) G4 _ _ rfl c) (fun a ha => ?_))
    show (if uU β a = (pF β i).2.1 then dGk β i a - dW β i * dR β i else dGk β i a) = if uU β a = (pF β i).2.1 then dGk β i (ui β (pF β i).2.1) - dW β i * dR β i else dGk β i a
    by_cases ea : uU β a = (pF β i).2.1
    · have : a = ui β (pF β i).2.1 := uU_inj ha h1 (by rw [ea, h2])
      rw [if_pos ea, if_pos ea, ← this]
    · rw [if_neg ea, if_neg ea]
end MSV
