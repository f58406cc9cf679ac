/-! The reference's tokens. -/
section TKM
variable {S : RSt} {y : Nat → Nat} {L : Nat}
def tp2 (S : RSt) (y : Nat → Nat) (L : Nat) : Prop := L ≤ 540 ∧ (∀ k, y k < 256) ∧ st_i S 2 = nI L ∧ ∀ k, k < L → st_a S 0 k = nI (y k)
theorem tp2_fr {I J A G : Nat → Prop} {S' : RSt} (h : tp2 S y L) (f : fr I J A G S S') (h1 : ¬ I 2) (h2 : ¬ A 0) : tp2 S' y L := ⟨h.1, h.2.1, by rw [f.1 _ h1]; exact h.2.2.1, fun k hk => by rw [f.2.2.1 _ h2]; exact h.2.2.2 k hk⟩
theorem m_isDig {b : Nat} (hb : b < 256) : fX5_isDigit (nI b) S = some (if dg b then 1 else 0, S) := by
  unfold fX5_isDigit
  by_cases c : dg b
  · rw [if_pos c]
    unfold dg at c
    rw [if_neg (show ¬ nI b < (48 : Int32) from nI_nlt (b := 48) c.1 (by omega)), if_neg (show ¬ (57 : Int32) < nI b from nI_nlt (a := 57) c.2 (by decide))]
  · rw [if_neg c]
    unfold dg at c
    by_cases d : b < 48
    · rw [if_pos (show nI b < (48 : Int32) from nI_lt (b := 48) d (by decide))]
    · rw [if_neg (show ¬ nI b < (48 : Int32) from nI_nlt (b := 48) (by omega) (by omega)), if_pos (show (57 : Int32) < nI b from nI_lt (a := 57) (by omega) (by omega))]
theorem m_isLet {b : Nat} (hb : b < 256) : fX5_isLetter (nI b) S = some (if le' b then 1 else 0, S) := by
  unfold fX5_isLetter
  by_cases c : le' b
  · rw [if_pos c]
    unfold le' at c
    rw [if_neg (show ¬ nI b < (97 : Int32) from nI_nlt (b := 97) c.1 (by omega)), if_neg (show ¬ (122 : Int32) < nI b from nI_nlt (a := 122) c.2 (by decide))]
  · rw [if_neg c]
    unfold le' at c
    by_cases d : b < 97
    · rw [if_pos (show nI b < (97 : Int32) from nI_lt (b := 97) d (by decide))]
    · rw [if_neg (show ¬ nI b < (97 : Int32) from nI_nlt (b := 97) (by omega) (by omega)), if_pos (show (122 : Int32) < nI b from nI_lt (a := 122) (by omega) (by omega))]
theorem m_skip : ∀ (d p f : Nat) (S : RSt), tp2 S y L → st_i S 3 = nI p → p + d = L → d < f → ∃ S', fX5_go_L0 f S = some S' ∧ st_i S' 3 = nI (sk y d p) ∧ fr (fun k => k = 3) no no no S S'
  | _, _, 0, _, _, _, _, h => absurd h (Nat.not_lt_zero _)
  | 0, p, f + 1, S, T, e, hp, _ => by
    have := T.1
    rw [fX5_go_L0, T.2.2.1, e, if_pos (nI_le (by omega) (by omega))]
    exact ⟨S, rfl, e, fr_rf⟩
  | d + 1, p, f + 1, S, T, e, hp, hf => by
    have hL := T.1
    have hb := T.2.1 p
    have go : bl (y p) → ∃ S', fX5_go_L0 f (st_si S 3 (nI p + 1)) = some S' ∧ st_i S' 3 = nI (sk y (d + 1) p) ∧ fr (fun k => k = 3) no no no S S' := fun c => by
      rw [nI_1, sk, if_pos c]
      have f1 : fr (fun k => k = 3) no no no S (st_si S 3 (nI (p + 1))) := fr_si rfl
      obtain ⟨S', h1, h2, h3⟩ := m_skip d (p + 1) f (st_si S 3 (nI (p + 1))) (tp2_fr T f1 (by decide) (fun z => z)) st_i_eq (by omega) (by omega)
      exact ⟨S', h1, h2, fr_tr f1 h3⟩
    have ip : vp_in (nI p) 540 := vp_in_nI (by omega) (by decide)
    have q32 : nI (y p) = (32 : Int32) ↔ y p = 32 := nI_eq (b := 32) (by omega) (by decide)
    have q10 : nI (y p) = (10 : Int32) ↔ y p = 10 := nI_eq (b := 10) (by omega) (by decide)
    rw [fX5_go_L0, T.2.2.1, e, if_neg (nI_ge (by omega) (by omega)), ob_in_t ip, nI_clamp (by omega), T.2.2.2 p (by omega)]
    by_cases c : nI (y p) = (32 : Int32)
    · rw [ob_jp c]
      show ∃ S', fX5_go_L0 f (st_si S 3 (st_i S 3 + 1)) = some S' ∧ _
      rw [e]
      exact go (Or.inl (q32.mp c))
    · rw [ob_jn c, ob_in_t ip]
      by_cases c2 : nI (y p) = (10 : Int32)
      · rw [if_pos c2]
        show ∃ S', fX5_go_L0 f (st_si S 3 (st_i S 3 + 1)) = some S' ∧ _
        rw [e]
        exact go (Or.inr (q10.mp c2))
      · rw [if_neg c2, sk, if_neg (fun z => z.elim (fun z => c (q32.mpr z)) (fun z => c2 (q10.mpr z)))]
        exact ⟨S, rfl, e, fr_rf⟩
def wI (y : Nat → Nat) (b : Nat) : Nat → Int64
  | 0 => 0
  | k + 1 => if 7 ≤ k then wI y b k else (27 * wI y b k + (nI (y (b + k))).toInt64) - 96
def nmI (y : Nat → Nat) (b : Nat) : Nat → Int32
  | 0 => 0
  | k + 1 => if 3 ≤ k then nmI y b k else (10 * nmI y b k + nI (y (b + k))) - 48
abbrev gdk (y : Nat → Nat) (b k : Nat) : Prop := if le' (y b) then dc y b k = 0 else dc y b k = k
theorem wN_b {b : Nat} : ∀ k, (∀ i, i < k → le' (y (b + i))) → wN y b k < 27 ^ k
  | 0, _ => by rw [wN]; decide
  | k + 1, h => by
    have ih := wN_b k (fun i hi => h i (by omega))
    have hk := h k (by omega)
    unfold le' at hk
    rw [wN, Nat.pow_succ]
    omega
theorem wI_wN {b : Nat} : ∀ k, (∀ i, i < k → le' (y (b + i))) → wI y b k = lN (wN y b (min k 7))
  | 0, _ => rfl
  | k + 1, h => by
    have ih := wI_wN k (fun i hi => h i (by omega))
    rw [wI]
    by_cases c : 7 ≤ k
    · rw [if_pos c, ih, Nat.min_eq_right c, Nat.min_eq_right (by omega)]
    · rw [if_neg c, ih, Nat.min_eq_left (by omega), Nat.min_eq_left (by omega), wN]
      have hk := h k (by omega)
      unfold le' at hk
      rw [nI_l (by omega), show (27 : Int64) = lN 27 from rfl, show (96 : Int64) = lN 96 from rfl, lN_iL, lN_iL, lN_iL, lN_iL, lN_iL, iL_mul, iL_add, iL_sub]
      congr 1
      omega
theorem nmI_vN {b : Nat} : ∀ k, k ≤ 3 → (∀ i, i < k → dg (y (b + i))) → nmI y b k = nI (vN y b k)
  | 0, _, _ => rfl
  | k + 1, hk, h => by
    have hd := h k (by omega)
    have ih := nmI_vN k (by omega) (fun i hi => h i (by omega))
    rw [nmI, if_neg (by omega), ih, vN]
    unfold dg at hd
    have e2 := nI_add (vN y b k * 10 + (y (b + k) - 48)) 48
    rw [show (10 : Int32) = nI 10 from rfl, pk_mul, nI_add, show 10 * vN y b k + y (b + k) = vN y b k * 10 + (y (b + k) - 48) + 48 by omega, ← e2, show nI 48 = (48 : Int32) from rfl, Int32.add_sub_cancel]
theorem gdk_s {b k : Nat} (hr : ru (y (b + k))) : gdk y b (k + 1) ↔ (gdk y b k ∧ (le' (y (b + k)) ↔ le' (y b))) := by
  have dl := dc_le y b k
  have hx : ¬ (le' (y (b + k)) ∧ dg (y (b + k))) := by
    unfold le' dg
    omega
  unfold gdk
  rw [dc]
  by_cases c : le' (y b)
  · rw [if_pos c, if_pos c]
    by_cases d : dg (y (b + k))
    · rw [if_pos d]
      exact ⟨fun z => by omega, fun z => absurd ⟨z.2.mpr c, d⟩ hx⟩
    · rw [if_neg d]
      have := hr.resolve_right d
      exact ⟨fun z => ⟨by omega, fun _ => c, fun _ => this⟩, fun z => by omega⟩
  · rw [if_neg c, if_neg c]
    by_cases d : dg (y (b + k))
    · rw [if_pos d]
      exact ⟨fun z => ⟨by omega, fun w => absurd ⟨w, d⟩ hx, fun w => absurd w c⟩, fun z => by omega⟩
    · rw [if_neg d]
      have := hr.resolve_right d
      exact ⟨fun z => by omega, fun z => absurd (z.2.mp this) c⟩
def gK0 : RSt → RSt → Prop := fr (fun k => k = 3 ∨ k = 6) (fun k => k = 0) no no
theorem m_tapeAt {p : Nat} (T : tp2 S y L) (hp : p < 2000) : fX5_tapeAt (nI p) S = some (if p < L then nI (y p) else nI 0, S) := by
  have hL := T.1
  unfold fX5_tapeAt
  rw [T.2.2.1]
  by_cases c : p < L
  · rw [if_neg (nI_ge c (by omega)), ob_in_t (vp_in_nI (show p < 540 by omega) (by decide)), nI_clamp (by omega), T.2.2.2 p c, if_pos c]
  · rw [if_pos (nI_le (by omega) (by omega)), if_neg c]
    rfl
theorem jgood {α : Type} {T : Int32 → RSt → Option α} {x d l r0 : Int32} {S : RSt} (h : fX5_isLetter d S = some (r0, S)) : ob_j T (fun tJ => ob_j (fun S_47 : RSt => tJ (0 : Int32) S_47) fun tJ' => (if x = 0 then tJ' S else (ob_2 (fX5_isLetter d S) fun r S' => (if r = l then tJ (1 : Int32) S' else tJ' S')))) = T (if x = 0 then 0 else if r0 = l then 1 else 0) S := by
  show (if x = 0 then T 0 S else (ob_2 (fX5_isLetter d S) fun r S' => (if r = l then T 1 S' else T 0 S'))) = _
  by_cases c : x = 0
  · rw [if_pos c, if_pos c]
  · rw [if_neg c, if_neg c, ob_2t h]
    by_cases g : r0 = l
    · rw [if_pos g, if_pos g]
    · rw [if_neg g, if_neg g]
theorem m_runL {b : Nat} : ∀ (d p f : Nat) (S : RSt), tp2 S y L → st_i S 3 = nI p → st_i S 4 = nI b → st_j S 0 = wI y b (p - b) → st_i S 6 = nmI y b (p - b) → b ≤ p → p + d = L → d < f → ∃ S', fX5_go_L177 f (if le' (y b) then 1 else 0) (if gdk y b (p - b) then 1 else 0) S = some (if gdk y b (rn y d p - b) then 1 else 0, S') ∧ st_i S' 3 = nI (rn y d p) ∧ st_j S' 0 = wI y b (rn y d p - b) ∧ st_i S' 6 = nmI y b (rn y d p - b) ∧ gK0 S S'
  | _, _, 0, _, _, _, _, _, _, _, _, h => absurd h (Nat.not_lt_zero _)
  | 0, p, f + 1, S, T, e, e4, e0, e6, hb, hp, _ => by
    have := T.1
    have ta := m_tapeAt (p := p) T (by omega)
    rw [if_neg (by omega)] at ta
    rw [fX5_go_L177, e, ob_2t ta, ob_2t (m_isLet (b := 0) (by decide)), if_neg (show ¬ le' 0 by decide), ob_jp rfl, e, ob_2t ta, ob_2t (m_isDig (b := 0) (by decide)), if_neg (show ¬ dg 0 by decide), if_pos rfl, rn]
    exact ⟨S, rfl, e, e0, e6, fr_rf⟩
  | d + 1, p, f + 1, S, T, e, e4, e0, e6, hb, hp, hf => by
    have hL := T.1
    have h256 := T.2.1 p
    have ip : vp_in (nI p) 540 := vp_in_nI (by omega) (by decide)
    have sb : p + 1 - b = (p - b) + 1 := by omega
    have ep : b + (p - b) = p := by omega
    have ta := m_tapeAt (p := p) T (by omega)
    rw [if_pos (by omega)] at ta
    have sub : nI p - nI b = nI (p - b) := by
      have q := nI_add (p - b) b
      rw [show p - b + b = p by omega] at q
      rw [← q, Int32.add_sub_cancel]
    -- behind the test: a sign of the run
    have body : ru (y p) → ∃ S', ob_in (st_i S 3) 540 (ob_j (fun (sJ_35_0 : Int32) (S_36 : RSt) => (ob_j (fun (S_38 : RSt) => (ob_j (fun (S_40 : RSt) => (fX5_go_L177 f (if le' (y b) then 1 else 0) sJ_35_0 (st_si S_40 3 ((st_i S_40 3) + (1 : Int32))))) fun tJ_39 => (if (3 : Int32) ≤ ((st_i S_38 3) - (st_i S_38 4)) then (tJ_39 S_38) else (tJ_39 (st_si S_38 6 ((((10 : Int32) * (st_i S_38 6)) + (st_a S 0 (st_i S 3).toNatClampNeg)) - (48 : Int32))))))) fun tJ_37 => (if (7 : Int32) ≤ ((st_i S_36 3) - (st_i S_36 4)) then (tJ_37 S_36) else (tJ_37 (st_sj S_36 0 ((((27 : Int64) * (st_j S_36 0)) + ((st_a S 0 (st_i S 3).toNatClampNeg).toInt64)) - (96 : Int64))))))) fun tJ_35 => (ob_j (fun (S_47 : RSt) => (tJ_35 (0 : Int32) S_47)) fun tJ_46 => (if (if gdk y b (p - b) then (1 : Int32) else 0) = 0 then (tJ_46 S) else (ob_2 (fX5_isLetter (st_a S 0 (st_i S 3).toNatClampNeg) S) fun r_51 S_52 => (if r_51 = (if le' (y b) then (1 : Int32) else 0) then (tJ_35 (1 : Int32) S_52) else (tJ_46 S_52)))))) = some (if gdk y b (rn y d (p + 1) - b) then 1 else 0, S') ∧ st_i S' 3 = nI (rn y d (p + 1)) ∧ st_j S' 0 = wI y b (rn y d (p + 1) - b) ∧ st_i S' 6 = nmI y b (rn y d (p + 1) - b) ∧ gK0 S S' := fun hr => by
      rw [e, ob_in_t ip, nI_clamp (by omega), T.2.2.2 p (by omega)]
      have gs := gdk_s (y := y) (b := b) (k := p - b) (by rw [ep]; exact hr)
      rw [ep] at gs
      -- the counters
      have fin : ∀ x : Int32, x = (if gdk y b (p + 1 - b) then 1 else 0) → ∃ S', (ob_j (fun (S_38 : RSt) => (ob_j (fun (S_40 : RSt) => (fX5_go_L177 f (if le' (y b) then 1 else 0) x (st_si S_40 3 ((st_i S_40 3) + (1 : Int32))))) fun tJ_39 => (if (3 : Int32) ≤ ((st_i S_38 3) - (st_i S_38 4)) then (tJ_39 S_38) else (tJ_39 (st_si S_38 6 ((((10 : Int32) * (st_i S_38 6)) + (nI (y p))) - (48 : Int32))))))) fun tJ_37 => (if (7 : Int32) ≤ ((st_i S 3) - (st_i S 4)) then (tJ_37 S) else (tJ_37 (st_sj S 0 ((((27 : Int64) * (st_j S 0)) + ((nI (y p)).toInt64)) - (96 : Int64)))))) = some (if gdk y b (rn y d (p + 1) - b) then 1 else 0, S') ∧ st_i S' 3 = nI (rn y d (p + 1)) ∧ st_j S' 0 = wI y b (rn y d (p + 1) - b) ∧ st_i S' 6 = nmI y b (rn y d (p + 1) - b) ∧ gK0 S S' := fun x hx => by
        have last : ∀ S0 : RSt, gK0 S S0 → st_i S0 3 = nI p → st_j S0 0 = wI y b (p + 1 - b) → st_i S0 6 = nmI y b (p + 1 - b) → ∃ S', fX5_go_L177 f (if le' (y b) then 1 else 0) x (st_si S0 3 (st_i S0 3 + 1)) = some (if gdk y b (rn y d (p + 1) - b) then 1 else 0, S') ∧ st_i S' 3 = nI (rn y d (p + 1)) ∧ st_j S' 0 = wI y b (rn y d (p + 1) - b) ∧ st_i S' 6 = nmI y b (rn y d (p + 1) - b) ∧ gK0 S S' := fun S0 f0 q3 q0 q6 => by
          rw [q3, nI_1, hx]
          have f1 : gK0 S0 (st_si S0 3 (nI (p + 1))) := fr_si (Or.inl rfl)
          have F := fr_tr f0 f1
          obtain ⟨S', h1, h2, h3, h4, h5⟩ := m_runL d (p + 1) f (st_si S0 3 (nI (p + 1))) (tp2_fr T F (by decide) (fun z => z)) st_i_eq (by rw [F.1 4 (by decide)]; exact e4) (by rw [st_j_si]; exact q0) (by rw [st_i_ne (by decide)]; exact q6) (by omega) (by omega) (by omega)
          exact ⟨S', h1, h2, h3, h4, fr_tr F h5⟩
        have mid : ∀ S0 : RSt, gK0 S S0 → st_i S0 3 = nI p → st_i S0 4 = nI b → st_i S0 6 = nmI y b (p - b) → st_j S0 0 = wI y b (p + 1 - b) → ∃ S', (ob_j (fun (S_40 : RSt) => (fX5_go_L177 f (if le' (y b) then 1 else 0) x (st_si S_40 3 ((st_i S_40 3) + (1 : Int32))))) fun tJ_39 => (if (3 : Int32) ≤ ((st_i S0 3) - (st_i S0 4)) then (tJ_39 S0) else (tJ_39 (st_si S0 6 ((((10 : Int32) * (st_i S0 6)) + (nI (y p))) - (48 : Int32)))))) = some (if gdk y b (rn y d (p + 1) - b) then 1 else 0, S') ∧ st_i S' 3 = nI (rn y d (p + 1)) ∧ st_j S' 0 = wI y b (rn y d (p + 1) - b) ∧ st_i S' 6 = nmI y b (rn y d (p + 1) - b) ∧ gK0 S S' := fun S0 f0 q3 q4 q6 q0 => by
          rw [q3, q4, sub]
          by_cases c : 3 ≤ p - b
          · rw [ob_jp (show (3 : Int32) ≤ nI (p - b) from nI_le (a := 3) c (by omega))]
            exact last S0 f0 q3 q0 (by rw [sb, nmI, if_pos c, q6])
          · rw [ob_jn (show ¬ (3 : Int32) ≤ nI (p - b) from nI_ge (b := 3) (by omega) (by decide))]
            exact last _ (fr_tr f0 (fr_si (Or.inr rfl))) (by rw [st_i_ne (by decide)]; exact q3) (by rw [st_j_si]; exact q0) (by rw [st_i_eq, sb, nmI, if_neg c, ep, q6])
        rw [e, e4, sub]
        by_cases c : 7 ≤ p - b
        · rw [ob_jp (show (7 : Int32) ≤ nI (p - b) from nI_le (a := 7) c (by omega))]
          exact mid S fr_rf e e4 e6 (by rw [sb, wI, if_pos c, e0])
        · rw [ob_jn (show ¬ (7 : Int32) ≤ nI (p - b) from nI_ge (b := 7) (by omega) (by decide))]
          exact mid _ (fr_sj rfl) e e4 e6 (by rw [st_j_eq, sb, wI, if_neg c, ep, e0])
      rw [jgood (m_isLet h256)]
      refine fin _ ?_
      rw [sb]
      by_cases c : gdk y b (p - b)
      · rw [if_pos c, if_neg ne0]
        by_cases g : le' (y p) ↔ le' (y b)
        · rw [if_pos (gs.mpr ⟨c, g⟩), if_pos]
          by_cases z : le' (y b)
          · rw [if_pos z, if_pos (g.mpr z)]
          · rw [if_neg z, if_neg (fun w => z (g.mp w))]
        · rw [if_neg (show ¬ gdk y b (p - b + 1) from fun w => g (gs.mp w).2), if_neg]
          intro w
          refine g ?_
          by_cases z : le' (y b)
          · rw [if_pos z] at w
            by_cases z2 : le' (y p)
            · exact ⟨fun _ => z, fun _ => z2⟩
            · rw [if_neg z2] at w
              exact absurd w (by decide)
          · rw [if_neg z] at w
            by_cases z2 : le' (y p)
            · rw [if_pos z2] at w
              exact absurd w (by decide)
            · exact ⟨fun q => absurd q z2, fun q => absurd q z⟩
      · rw [if_neg c, if_pos rfl, if_neg (show ¬ gdk y b (p - b + 1) from fun w => c (gs.mp w).1)]
    rw [fX5_go_L177, e, ob_2t ta, ob_2t (m_isLet h256), rn]
    by_cases c1 : le' (y p)
    · rw [if_pos c1, ob_jn ne0, if_pos (Or.inl c1)]
      exact body (Or.inl c1)
    · rw [if_neg c1, ob_jp rfl, e, ob_2t ta, ob_2t (m_isDig h256)]
      by_cases c2 : dg (y p)
      · rw [if_pos c2, if_neg ne0, if_pos (Or.inr c2)]
        exact body (Or.inr c2)
      · rw [if_neg c2, if_pos rfl, if_neg (show ¬ ru (y p) from fun z => z.elim c1 c2)]
        exact ⟨S, rfl, e, e0, e6, fr_rf⟩
/-- what the reference holds of a token -/
def mtk (S : RSt) (L : Nat) (t : Nat × Nat × Nat × Nat) : Prop := st_i S 3 = nI t.2.2.1 ∧ st_i S 4 = nI t.2.1 ∧ (st_i S 5 = 3 ↔ t.1 = 2) ∧ (st_i S 5 = 4 ↔ t.1 = 3) ∧ (st_i S 5 = 0 ↔ (t.1 = 0 ∧ L ≤ 500)) ∧ (st_i S 5 = 1 → (t.1 = 0 ∨ t.1 = 1)) ∧ (t.1 = 2 → st_i S 6 = nI t.2.2.2) ∧ ∀ w, w < 4 → fX5_isWord (lN (wh w)) S = some (if t.1 = 4 + w then 1 else 0, S)
def gK : RSt → RSt → Prop := fr (fun k => 3 ≤ k ∧ k < 7) (fun k => k = 0) no no
theorem m_isWord0 {h : Int64} (e : ¬ st_i S 5 = 2) : fX5_isWord h S = some (0, S) := by
  unfold fX5_isWord
  rw [if_neg e]
theorem wk_4 {h : Nat} : (wk h = 4 ↔ h = 194797783) ∧ (wk h = 5 ↔ h = 12328316) ∧ (wk h = 6 ↔ h = 168755) ∧ (wk h = 7 ↔ h = 375035) := by
  unfold wk
  split
  · omega
  · split
    · omega
    · split
      · omega
      · split <;> omega
theorem wk_w {h w : Nat} (hw : w < 4) : wk h = 4 + w ↔ h = wh w := by
  obtain rfl | rfl | rfl | rfl : w = 0 ∨ w = 1 ∨ w = 2 ∨ w = 3 := by omega
  · exact wk_4.1
  · exact wk_4.2.1
  · exact wk_4.2.2.1
  · exact wk_4.2.2.2
theorem wk_v (h : Nat) : wk h = 1 ∨ wk h = 4 ∨ wk h = 5 ∨ wk h = 6 ∨ wk h = 7 := by
  unfold wk
  split
  · omega
  · split
    · omega
    · split
      · omega
      · split <;> omega
theorem m_goR {b : Nat} (T : tp2 S y L) (hb : b < L) (hr : ru (y b)) (e3 : st_i S 3 = nI b) (e4 : st_i S 4 = nI b) : ∃ S', (ob_2 (fX5_go_L177 1000 (if le' (y b) then 1 else 0) (1 : Int32) (st_si (st_sj S 0 (0 : Int64)) 6 (0 : Int32))) fun o_67 S_66 => (if o_67 = 0 then (some (st_si S_66 5 (1 : Int32))) else (ob_j (fun (S_70 : RSt) => (if (if le' (y b) then (1 : Int32) else 0) = 0 then (some (st_si S_70 5 (3 : Int32))) else (some (st_si S_70 5 (2 : Int32))))) fun tJ_69 => (if (if le' (y b) then (1 : Int32) else 0) = 0 then (if ((st_i S_66 3) - (st_i S_66 4)) ≤ (3 : Int32) then (tJ_69 S_66) else (some (st_si S_66 5 (1 : Int32)))) else (tJ_69 S_66))))) = some S' ∧ mtk S' L (tkR y L b) ∧ gK S S' := by
  have hL := T.1
  have f0 : gK0 S (st_si (st_sj S 0 (0 : Int64)) 6 (0 : Int32)) := fr_tr (fr_sj rfl) (fr_si (Or.inr rfl))
  have g0 : gdk y b (b - b) := by
    rw [Nat.sub_self]
    unfold gdk
    split <;> rfl
  obtain ⟨S1, h1, h2, h3, h4, h5⟩ := m_runL (b := b) (L - b) b 1000 _ (tp2_fr T f0 (by decide) (fun z => z)) (by rw [st_i_ne (by decide)]; exact e3) (by rw [st_i_ne (by decide)]; exact e4) (by rw [st_j_si, st_j_eq, Nat.sub_self]; rfl) (by rw [st_i_eq, Nat.sub_self]; rfl) (Nat.le_refl _) (by omega) (by omega)
  rw [if_pos g0] at h1
  have F1 := fr_tr f0 h5
  have K1 : gK S S1 := fr_mo F1 (fun _ z => by omega) (fun _ z => z) (fun _ z => z) (fun _ z => z)
  have e4' : st_i S1 4 = nI b := by rw [F1.1 4 (by decide)]; exact e4
  have rb := rn_b y (L - b) b
  have rr := rn_r y (L - b) b
  have rp : b < rn y (L - b) b := by
    have q := rn_b y (L - b - 1) (b + 1)
    rw [show L - b = (L - b - 1) + 1 by omega, rn, if_pos hr]
    omega
  have dle := dc_le y b (rn y (L - b) b - b)
  have fst : dc y b (rn y (L - b) b - b) = 0 ∨ dc y b (rn y (L - b) b - b) ≠ 0 := by omega
  rw [ob_2t h1]
  unfold tkR
  generalize rn y (L - b) b = e at *
  have sub : nI e - nI b = nI (e - b) := by
    have q := nI_add (e - b) b
    rw [show e - b + b = e by omega] at q
    rw [← q, Int32.add_sub_cancel]
  have mk : ∀ (v : Int32) (t : Nat × Nat × Nat × Nat), t.2.1 = b → t.2.2.1 = e → (v = 3 ↔ t.1 = 2) → (v = 4 ↔ t.1 = 3) → (v = 0 ↔ (t.1 = 0 ∧ L ≤ 500)) → (v = 1 → (t.1 = 0 ∨ t.1 = 1)) → (t.1 = 2 → st_i S1 6 = nI t.2.2.2) → (∀ w, w < 4 → fX5_isWord (lN (wh w)) (st_si S1 5 v) = some (if t.1 = 4 + w then 1 else 0, st_si S1 5 v)) → ∃ S', some (st_si S1 5 v) = some S' ∧ mtk S' L t ∧ gK S S' := fun v t q1 q2 q3 q4 q5 q6 q7 q8 => ⟨_, rfl, ⟨by rw [st_i_ne (by decide), q2]; exact h2, by rw [st_i_ne (by decide), q1]; exact e4', by rw [st_i_eq]; exact q3, by rw [st_i_eq]; exact q4, by rw [st_i_eq]; exact q5, by rw [st_i_eq]; exact q6, fun z => by rw [st_i_ne (by decide)]; exact q7 z, q8⟩, fr_tr K1 (fr_si (by omega))⟩
  have w0 : ∀ (v : Int32), ¬ v = 2 → ∀ (k : Nat), k < 4 → ∀ w, w < 4 → fX5_isWord (lN (wh w)) (st_si S1 5 v) = some (if k = 4 + w then 1 else 0, st_si S1 5 v) := fun v hv k hk w hw => by
    rw [m_isWord0 (by rw [st_i_eq]; exact hv), if_neg (by omega)]
  by_cases c : dc y b (e - b) = 0
  · have hl : ∀ i, i < e - b → le' (y (b + i)) := fun i hi => by
      have h1 := dc_0 y b _ c i hi
      have h2 := rr (b + i) (by omega) (by omega)
      exact h2.resolve_right h1
    have lb : le' (y b) := by
      have := hl 0 (by omega)
      exact this
    have gd : gdk y b (e - b) := by
      unfold gdk
      rw [if_pos lb]
      exact c
    rw [if_pos gd, if_neg ne0, if_pos lb, ob_jn ne0]
    show ∃ S', some (st_si S1 5 2) = some S' ∧ _ ∧ _
    rw [if_pos c]
    have vv := wk_v (wN y b (min (e - b) 7))
    refine mk 2 _ rfl rfl ⟨fun z => absurd z (by decide), fun z => ?_⟩ ⟨fun z => absurd z (by decide), fun z => ?_⟩ ⟨fun z => absurd z (by decide), fun z => ?_⟩ (fun z => absurd z (by decide)) (fun z => ?_) (fun w hw => ?_)
    · have z : wk (wN y b (min (e - b) 7)) = 2 := z
      omega
    · have z : wk (wN y b (min (e - b) 7)) = 3 := z
      omega
    · have z : wk (wN y b (min (e - b) 7)) = 0 := z.1
      omega
    · have z : wk (wN y b (min (e - b) 7)) = 2 := z
      omega
    · have wb := wN_b (y := y) (b := b) (min (e - b) 7) (fun i hi => hl i (by omega))
      have w63 : wN y b (min (e - b) 7) < 2 ^ 63 := by
        have : (27 : Nat) ^ (min (e - b) 7) ≤ 27 ^ 7 := Nat.pow_le_pow_right (by decide) (by omega)
        have : (27 : Nat) ^ 7 < 2 ^ 63 := by decide
        omega
      have h63 : wh w < 2 ^ 63 := by
        obtain rfl | rfl | rfl | rfl : w = 0 ∨ w = 1 ∨ w = 2 ∨ w = 3 := by omega
        all_goals decide
      unfold fX5_isWord
      rw [st_i_eq, if_pos rfl, st_j_si, h3, wI_wN _ hl]
      show (if lg_cmp _ _ = 0 then _ else _) = some (if wk (wN y b (min (e - b) 7)) = 4 + w then 1 else 0, _)
      by_cases g : wN y b (min (e - b) 7) = wh w
      · rw [if_pos ((wk_w hw).mpr g), g, if_pos]
        unfold lg_cmp
        rw [if_neg (show ¬ lN (wh w) > lN (wh w) from Int64.lt_irrefl), if_pos rfl]
      · rw [if_neg (fun z => g ((wk_w hw).mp z)), if_neg]
        intro z
        refine g ((pk_lEQ w63 h63).mp ?_)
        unfold lg_cmp at z
        by_cases g1 : lN (wN y b (min (e - b) 7)) > lN (wh w)
        · rw [if_pos g1] at z
          exact absurd z (by decide)
        · rw [if_neg g1] at z
          by_cases g2 : lN (wN y b (min (e - b) 7)) = lN (wh w)
          · exact g2
          · rw [if_neg g2] at z
            exact absurd z (by decide)
  · rw [if_neg c]
    by_cases d : dc y b (e - b) = e - b
    · have hd := dc_k y b _ d
      have lb : ¬ le' (y b) := by
        have := hd 0 (by omega)
        rw [Nat.add_zero] at this
        unfold dg at this
        unfold le'
        omega
      have gd : gdk y b (e - b) := by
        unfold gdk
        rw [if_neg lb]
        exact d
      rw [if_pos gd, if_neg ne0, if_neg lb, ob_jp rfl, h2, e4', sub]
      by_cases g : e - b ≤ 3
      · rw [if_pos (show nI (e - b) ≤ (3 : Int32) from nI_le (b := 3) g (by decide))]
        show ∃ S', some (st_si S1 5 3) = some S' ∧ _ ∧ _
        rw [if_pos ⟨d, g⟩]
        exact mk 3 _ rfl rfl ⟨fun _ => rfl, fun _ => rfl⟩ ⟨fun z => absurd z (by decide), fun z => absurd (show (2 : Nat) = 3 from z) (by decide)⟩ ⟨fun z => absurd z (by decide), fun z => absurd (show (2 : Nat) = 0 from z.1) (by decide)⟩ (fun z => absurd z (by decide)) (fun _ => by rw [h4]; exact nmI_vN _ g hd) (w0 3 (by decide) 2 (by decide))
      · rw [if_neg (show ¬ nI (e - b) ≤ (3 : Int32) from nI_ge (a := 3) (by omega) (by omega)), if_neg (fun z => g z.2)]
        exact mk 1 _ rfl rfl ⟨fun z => absurd z (by decide), fun z => absurd (show (1 : Nat) = 2 from z) (by decide)⟩ ⟨fun z => absurd z (by decide), fun z => absurd (show (1 : Nat) = 3 from z) (by decide)⟩ ⟨fun z => absurd z (by decide), fun z => absurd (show (1 : Nat) = 0 from z.1) (by decide)⟩ (fun _ => Or.inr rfl) (fun z => absurd (show (1 : Nat) = 2 from z) (by decide)) (w0 1 (by decide) 1 (by decide))
    · have gd : ¬ gdk y b (e - b) := by
        unfold gdk
        split
        · exact c
        · exact d
      rw [if_neg gd, if_pos rfl, if_neg (fun z => d z.1)]
      exact mk 1 _ rfl rfl ⟨fun z => absurd z (by decide), fun z => absurd (show (1 : Nat) = 2 from z) (by decide)⟩ ⟨fun z => absurd z (by decide), fun z => absurd (show (1 : Nat) = 3 from z) (by decide)⟩ ⟨fun z => absurd z (by decide), fun z => absurd (show (1 : Nat) = 0 from z.1) (by decide)⟩ (fun _ => Or.inr rfl) (fun z => absurd (show (1 : Nat) = 2 from z) (by decide)) (w0 1 (by decide) 1 (by decide))
theorem m_go {p : Nat} (T : tp2 S y L) (hp : p ≤ L) (e3 : st_i S 3 = nI p) : ∃ S', fX5_go S = some S' ∧ mtk S' L (tkD y L p) ∧ gK S S' := by
  have hL := T.1
  obtain ⟨S1, h1, h2, h3⟩ := m_skip (L - p) p 1000 S T e3 (by omega) (by omega)
  have sb := sk_b y (L - p) p
  have f2 : fr (fun k => k = 4) no no no S1 (st_si S1 4 (st_i S1 3)) := fr_si rfl
  have K2 : gK S (st_si S1 4 (st_i S1 3)) := fr_tr (fr_mo h3 (fun _ z => by omega) (fun _ z => z.elim) (fun _ z => z) (fun _ z => z)) (fr_mo f2 (fun _ z => by omega) (fun _ z => z.elim) (fun _ z => z) (fun _ z => z))
  have T2 := tp2_fr T K2 (by omega) (fun z => z)
  have e4 : st_i (st_si S1 4 (st_i S1 3)) 4 = nI (sk y (L - p) p) := by rw [st_i_eq, h2]
  have e3' : st_i (st_si S1 4 (st_i S1 3)) 3 = nI (sk y (L - p) p) := by rw [st_i_ne (by decide), h2]
  unfold fX5_go tkD tkB
  rw [ob_1t h1]
  generalize st_si S1 4 (st_i S1 3) = S2 at *
  generalize sk y (L - p) p = b at *
  rw [T2.2.2.1, e4]
  have mk : ∀ (S3 : RSt) (v : Int32) (t : Nat × Nat × Nat × Nat), gK S S3 → st_i S3 3 = nI t.2.2.1 → st_i S3 4 = nI t.2.1 → ¬ v = 2 → t.1 < 4 → t.1 ≠ 2 → ¬ v = 3 → (v = 4 ↔ t.1 = 3) → (v = 0 ↔ (t.1 = 0 ∧ L ≤ 500)) → (v = 1 → (t.1 = 0 ∨ t.1 = 1)) → st_i S3 5 = v → mtk S3 L t ∧ gK S S3 := fun S3 v t q0 q1 q2 q3 q4 q5 q6 q7 q8 q9 q10 => ⟨⟨q1, q2, by rw [q10]; exact ⟨fun z => absurd z q6, fun z => absurd z q5⟩, by rw [q10]; exact q7, by rw [q10]; exact q8, by rw [q10]; exact q9, fun z => absurd z q5, fun w hw => by rw [m_isWord0 (by rw [q10]; exact q3), if_neg (by omega)]⟩, q0⟩
  -- the text isn't cut here
  have T11 : ¬ (500 < L ∧ 500 ≤ b) → ∃ S', (if (st_i S2 3) < (st_i S2 2) then (ob_in (st_i S2 3) 540 (ob_2 (fX5_isLetter (st_a S2 0 (st_i S2 3).toNatClampNeg) S2) fun r_16 S_17 => (ob_j (fun (S_20 : RSt) => (ob_2 (fX5_isLetter (st_a S2 0 (st_i S2 3).toNatClampNeg) S_20) fun r_22 S_23 => (ob_2 (fX5_go_L177 1000 r_22 (1 : Int32) (st_si (st_sj S_23 0 (0 : Int64)) 6 (0 : Int32))) fun o_67 S_66 => (if o_67 = 0 then (some (st_si S_66 5 (1 : Int32))) else (ob_j (fun (S_70 : RSt) => (if r_22 = 0 then (some (st_si S_70 5 (3 : Int32))) else (some (st_si S_70 5 (2 : Int32))))) fun tJ_69 => (if r_22 = 0 then (if ((st_i S_66 3) - (st_i S_66 4)) ≤ (3 : Int32) then (tJ_69 S_66) else (some (st_si S_66 5 (1 : Int32)))) else (tJ_69 S_66))))))) fun tJ_19 => (if r_16 = 0 then (ob_2 (fX5_isDigit (st_a S2 0 (st_i S2 3).toNatClampNeg) S_17) fun r_78 S_79 => (if r_78 = 0 then (ob_j (fun (sJ_82_0 : Int32) (S_83 : RSt) => (some (st_si (st_si S_83 5 sJ_82_0) 3 ((st_i (st_si S_83 5 sJ_82_0) 3) + (1 : Int32))))) fun tJ_82 => (if (st_a S2 0 (st_i S2 3).toNatClampNeg) = (59 : Int32) then (tJ_82 (4 : Int32) S_79) else (tJ_82 (1 : Int32) S_79))) else (tJ_19 S_79))) else (tJ_19 S_17))))) else (some (st_si S2 5 (0 : Int32)))) = some S' ∧ mtk S' L (if L ≤ b ∨ 500 ≤ b then (0, min L 500, b, 0) else if ru (y b) then tkR y L b else if y b = 59 then (3, b, b + 1, 0) else (1, b, b + 1, 0)) ∧ gK S S' := fun hc => by
    rw [e3', T2.2.2.1]
    by_cases c1 : L ≤ b
    · rw [if_neg (nI_nlt c1 (by omega)), if_pos (Or.inl c1)]
      refine ⟨_, rfl, mk _ 0 _ (fr_tr K2 (fr_si (by omega))) (by rw [st_i_ne (by decide)]; exact e3') (by rw [st_i_ne (by decide), e4, show b = min L 500 by omega]) (by decide) (by show (0 : Nat) < 4; decide) (by show (0 : Nat) ≠ 2; decide) (by decide) ⟨fun z => absurd z (by decide), fun z => absurd (show (0 : Nat) = 3 from z) (by decide)⟩ ⟨fun _ => ⟨rfl, by omega⟩, fun _ => rfl⟩ (fun z => absurd z (by decide)) st_i_eq⟩
    · have hb5 : b < 500 := by omega
      have b256 := T2.2.1 b
      have ib : vp_in (nI b) 540 := vp_in_nI (by omega) (by decide)
      rw [if_pos (nI_lt (by omega) (by omega)), if_neg (show ¬ (L ≤ b ∨ 500 ≤ b) by omega), ob_in_t ib, nI_clamp (by omega), T2.2.2.2 b (by omega), ob_2t (m_isLet b256)]
      have run : ru (y b) → ∃ S', (ob_2 (fX5_isLetter (nI (y b)) S2) fun r_22 S_23 => (ob_2 (fX5_go_L177 1000 r_22 (1 : Int32) (st_si (st_sj S_23 0 (0 : Int64)) 6 (0 : Int32))) fun o_67 S_66 => (if o_67 = 0 then (some (st_si S_66 5 (1 : Int32))) else (ob_j (fun (S_70 : RSt) => (if r_22 = 0 then (some (st_si S_70 5 (3 : Int32))) else (some (st_si S_70 5 (2 : Int32))))) fun tJ_69 => (if r_22 = 0 then (if ((st_i S_66 3) - (st_i S_66 4)) ≤ (3 : Int32) then (tJ_69 S_66) else (some (st_si S_66 5 (1 : Int32)))) else (tJ_69 S_66)))))) = some S' ∧ mtk S' L (if ru (y b) then tkR y L b else if y b = 59 then (3, b, b + 1, 0) else (1, b, b + 1, 0)) ∧ gK S S' := fun hr => by
        rw [ob_2t (m_isLet b256), if_pos hr]
        obtain ⟨S', k1, k2, k3⟩ := m_goR T2 (by omega) hr e3' e4
        exact ⟨S', k1, k2, fr_tr K2 k3⟩
      by_cases g1 : le' (y b)
      · rw [if_pos g1, ob_jn ne0]
        exact run (Or.inl g1)
      · rw [if_neg g1, ob_jp rfl, ob_2t (m_isDig b256)]
        by_cases g2 : dg (y b)
        · rw [if_pos g2, if_neg ne0]
          exact run (Or.inr g2)
        · have nr : ¬ ru (y b) := fun z => z.elim g1 g2
          rw [if_neg g2, if_pos rfl, if_neg nr]
          have q59 : nI (y b) = (59 : Int32) ↔ y b = 59 := nI_eq (b := 59) (by omega) (by decide)
          by_cases g3 : y b = 59
          · rw [ob_jp (q59.mpr g3), if_pos g3]
            refine ⟨_, rfl, mk _ 4 _ (fr_tr K2 (fr_tr (fr_si (by omega)) (fr_si (by omega)))) (by rw [st_i_eq, st_i_ne (by decide), e3', nI_1]) (by rw [st_i_ne (by decide), st_i_ne (by decide), e4]) (by decide) (by show (3 : Nat) < 4; decide) (by show (3 : Nat) ≠ 2; decide) (by decide) ⟨fun _ => rfl, fun _ => rfl⟩ ⟨fun z => absurd z (by decide), fun z => absurd (show (3 : Nat) = 0 from z.1) (by decide)⟩ (fun z => absurd z (by decide)) (by rw [st_i_ne (by decide), st_i_eq])⟩
          · rw [ob_jn (fun z => g3 (q59.mp z)), if_neg g3]
            refine ⟨_, rfl, mk _ 1 _ (fr_tr K2 (fr_tr (fr_si (by omega)) (fr_si (by omega)))) (by rw [st_i_eq, st_i_ne (by decide), e3', nI_1]) (by rw [st_i_ne (by decide), st_i_ne (by decide), e4]) (by decide) (by show (1 : Nat) < 4; decide) (by show (1 : Nat) ≠ 2; decide) (by decide) ⟨fun z => absurd z (by decide), fun z => absurd (show (1 : Nat) = 3 from z) (by decide)⟩ ⟨fun z => absurd z (by decide), fun z => absurd (show (1 : Nat) = 0 from z.1) (by decide)⟩ (fun _ => Or.inr rfl) (by rw [st_i_ne (by decide), st_i_eq])⟩
  by_cases c : 500 < L
  · rw [ob_jn (show ¬ nI L ≤ (500 : Int32) from nI_ge (a := 500) c (by omega))]
    by_cases d : b < 500
    · rw [if_pos (show nI b < (500 : Int32) from nI_lt (b := 500) d (by decide))]
      exact T11 (by omega)
    · rw [if_neg (show ¬ nI b < (500 : Int32) from nI_nlt (b := 500) (by omega) (by omega)), if_pos (Or.inr (by omega))]
      refine ⟨_, rfl, mk _ 1 _ (fr_tr K2 (fr_tr (fr_si (by omega)) (fr_si (by omega)))) (by rw [st_i_ne (by decide), st_i_ne (by decide)]; exact e3') (by rw [st_i_ne (by decide), st_i_eq, show min L 500 = 500 by omega]; rfl) (by decide) (by show (0 : Nat) < 4; decide) (by show (0 : Nat) ≠ 2; decide) (by decide) ⟨fun z => absurd z (by decide), fun z => absurd (show (0 : Nat) = 3 from z) (by decide)⟩ ⟨fun z => absurd z (by decide), fun z => by omega⟩ (fun _ => Or.inl rfl) st_i_eq⟩
  · rw [ob_jp (show nI L ≤ (500 : Int32) from nI_le (b := 500) (by omega) (by decide))]
    exact T11 (by omega)
end TKM
