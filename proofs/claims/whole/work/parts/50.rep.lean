/-! What a state means: a book, its representations, frames, loops. -/
/-- months, homes, weights by gap, levels and one (0: none) by 8 * home + month -/
abbrev BK : Type := Nat × Nat × (Nat → Nat) × (Nat → Nat)
def bk_n (β : BK) : Nat := β.1
def bk_h (β : BK) : Nat := β.2.1
def bk_w (β : BK) : Nat → Nat := β.2.2.1
def bk_v (β : BK) : Nat → Nat := β.2.2.2
def ct (v : Nat → Nat) : Nat → Nat
  | 0 => 0
  | k + 1 => ct v k + if v k = 0 then 0 else 1
def bk_c (β : BK) : Nat := ct (bk_v β) 48
def bk_ok (β : BK) : Prop := 2 ≤ bk_n β ∧ bk_n β ≤ 8 ∧ bk_h β ≤ 6 ∧ (∀ g, bk_w β g ≤ 3) ∧ (∀ g, g = 0 ∨ bk_n β ≤ g → bk_w β g = 0) ∧ (∀ k, bk_v β k ≤ 1000) ∧ (∀ a b, b < 8 → bk_v β (8 * a + b) ≠ 0 → a < bk_h β ∧ b < bk_n β)
theorem ct_le (v : Nat → Nat) : ∀ k, ct v k ≤ k
  | 0 => Nat.le_refl 0
  | k + 1 => by
    have := ct_le v k
    rw [ct]
    split <;> omega
theorem ct_congr {v u : Nat → Nat} : ∀ {k : Nat}, (∀ i, i < k → v i = u i) → ct v k = ct u k
  | 0, _ => rfl
  | k + 1, h => by rw [ct, ct, ct_congr (fun i hi => h i (by omega)), h k (by omega)]
/-- one place changes -/
theorem ct_up {v : Nat → Nat} {p x : Nat} : ∀ {k : Nat}, p < k → ct (va_up v p x) k + (if v p = 0 then 0 else 1) = ct v k + (if x = 0 then 0 else 1)
  | 0, h => absurd h (Nat.not_lt_zero p)
  | k + 1, h => by
    rw [ct, ct]
    by_cases e : p = k
    · subst e
      rw [va_up_self, ct_congr (u := v) (fun i hi => va_up_ne _ _ (by omega))]
      omega
    · have := ct_up (v := v) (p := p) (x := x) (k := k) (by omega)
      rw [va_up_ne _ _ (fun q => e q.symm)]
      omega
def cB (S : RSt) (j : Nat) (β : BK) : Prop := bk_ok β ∧ st_i S (3 * j) = nI (bk_n β) ∧ st_i S (3 * j + 1) = nI (bk_h β) ∧ st_i S (3 * j + 2) = nI (bk_c β) ∧ (∀ g, g < 8 → st_a S (2 * j) g = nI (bk_w β g)) ∧ ∀ k, k < 48 → st_a S (2 * j + 1) k = nI (bk_v β k) - 1
def mB (S : RSt) (a b : Nat) (β : BK) : Prop := bk_ok β ∧ st_a S a b = nI (bk_n β) ∧ st_a S a (b + 1) = nI (bk_h β) ∧ (∀ g, g < 8 → st_a S a (b + 2 + g) = nI (bk_w β g)) ∧ ∀ k, k < 48 → st_a S a (b + 10 + k) = nI (bk_v β k)
/-- what may have changed -/
def fr (I : Nat → Prop) (J : Nat → Prop) (A : Nat → Prop) (G : Nat → Prop) (S S' : RSt) : Prop := (∀ k, ¬ I k → st_i S' k = st_i S k) ∧ (∀ k, ¬ J k → st_j S' k = st_j S k) ∧ (∀ a, ¬ A a → st_a S' a = st_a S a) ∧ ∀ a, ¬ G a → st_g S' a = st_g S a
def no : Nat → Prop := fun _ => False
theorem fr_rf {I J A G : Nat → Prop} {S : RSt} : fr I J A G S S := ⟨fun _ _ => rfl, fun _ _ => rfl, fun _ _ => rfl, fun _ _ => rfl⟩
theorem fr_tr {I J A G : Nat → Prop} {S T U : RSt} (h1 : fr I J A G S T) (h2 : fr I J A G T U) : fr I J A G S U := ⟨fun k q => (h2.1 k q).trans (h1.1 k q), fun k q => (h2.2.1 k q).trans (h1.2.1 k q), fun k q => (h2.2.2.1 k q).trans (h1.2.2.1 k q), fun k q => (h2.2.2.2 k q).trans (h1.2.2.2 k q)⟩
theorem fr_mo {I J A G I' J' A' G' : Nat → Prop} {S T : RSt} (h : fr I J A G S T) (hI : ∀ k, I k → I' k) (hJ : ∀ k, J k → J' k) (hA : ∀ k, A k → A' k) (hG : ∀ k, G k → G' k) : fr I' J' A' G' S T := ⟨fun k q => h.1 k (fun z => q (hI k z)), fun k q => h.2.1 k (fun z => q (hJ k z)), fun k q => h.2.2.1 k (fun z => q (hA k z)), fun k q => h.2.2.2 k (fun z => q (hG k z))⟩
theorem fr_si {I J A G : Nat → Prop} {S : RSt} {k : Nat} {v : Int32} (h : I k) : fr I J A G S (st_si S k v) := ⟨fun q hq => st_i_ne (fun z => hq (z ▸ h)), fun _ _ => rfl, fun _ _ => rfl, fun _ _ => rfl⟩
theorem fr_sj {I J A G : Nat → Prop} {S : RSt} {k : Nat} {v : Int64} (h : J k) : fr I J A G S (st_sj S k v) := ⟨fun _ _ => rfl, fun q hq => st_j_ne (fun z => hq (z ▸ h)), fun _ _ => rfl, fun _ _ => rfl⟩
theorem fr_sa {I J A G : Nat → Prop} {S : RSt} {k i : Nat} {v : Int32} (h : A k) : fr I J A G S (st_sa S k i v) := ⟨fun _ _ => rfl, fun _ _ => rfl, fun q hq => st_a_ne (fun z => hq (z ▸ h)), fun _ _ => rfl⟩
theorem fr_sg {I J A G : Nat → Prop} {S : RSt} {k i : Nat} {v : Int64} (h : G k) : fr I J A G S (st_sg S k i v) := ⟨fun _ _ => rfl, fun _ _ => rfl, fun _ _ => rfl, fun q hq => st_g_ne (fun z => hq (z ▸ h))⟩
theorem fr_cp {I J A G : Nat → Prop} {S : RSt} {a b sp dp n : Nat} (h : A b) : fr I J A G S (st_cp S a b sp dp n) := ⟨fun _ _ => rfl, fun _ _ => rfl, fun q hq => st_ac_ne (fun z => hq (z ▸ h)), fun _ _ => rfl⟩
/-- the parts of a book of the landed object -/
def fB (j : Nat) : RSt → RSt → Prop := fr (fun k => k = 3 * j ∨ k = 3 * j + 1 ∨ k = 3 * j + 2) no (fun a => a = 2 * j ∨ a = 2 * j + 1) no
theorem cB_of {S S' : RSt} {j : Nat} {β : BK} (h : cB S j β) (e1 : st_i S' (3 * j) = st_i S (3 * j)) (e2 : st_i S' (3 * j + 1) = st_i S (3 * j + 1)) (e3 : st_i S' (3 * j + 2) = st_i S (3 * j + 2)) (e4 : st_a S' (2 * j) = st_a S (2 * j)) (e5 : st_a S' (2 * j + 1) = st_a S (2 * j + 1)) : cB S' j β := by
  unfold cB at h ⊢
  rw [e1, e2, e3, e4, e5]
  exact h
theorem cB_fr {I J A G : Nat → Prop} {S S' : RSt} {j : Nat} {β : BK} (h : cB S j β) (f : fr I J A G S S') (h1 : ¬ I (3 * j)) (h2 : ¬ I (3 * j + 1)) (h3 : ¬ I (3 * j + 2)) (h4 : ¬ A (2 * j)) (h5 : ¬ A (2 * j + 1)) : cB S' j β := cB_of h (f.1 _ h1) (f.1 _ h2) (f.1 _ h3) (f.2.2.1 _ h4) (f.2.2.1 _ h5)
theorem mB_fr {I J A G : Nat → Prop} {S S' : RSt} {a b : Nat} {β : BK} (h : mB S a b β) (f : fr I J A G S S') (h1 : ¬ A a) : mB S' a b β := by
  unfold mB at h ⊢
  rw [f.2.2.1 a h1]
  exact h
/-- a loop that counts up: it ends, or goes on -/
theorem lp_up {σ ρ : Type} (F : Nat → Nat → σ → Option ρ) (Inv : Nat → σ → Prop) (N : Nat) (R : ρ → Prop) (hend : ∀ n s, Inv N s → ∃ r, F (n + 1) N s = some r ∧ R r)
    (hstep : ∀ n i s, i < N → Inv i s → (∃ r, F (n + 1) i s = some r ∧ R r) ∨ ∃ s', Inv (i + 1) s' ∧ F (n + 1) i s = F n (i + 1) s') : ∀ (d i n : Nat) (s : σ), i + d = N → d < n → Inv i s → ∃ r, F n i s = some r ∧ R r
  | _, _, 0, _, _, h, _ => absurd h (Nat.not_lt_zero _)
  | 0, i, n + 1, s, e, _, hi => by
    have e : i = N := by omega
    subst e
    exact hend n s hi
  | d + 1, i, n + 1, s, e, h, hi => by
    rcases hstep n i s (by omega) hi with h1 | ⟨s', h1, h2⟩
    · exact h1
    · rw [h2]
      exact lp_up F Inv N R hend hstep d (i + 1) n s' (by omega) (by omega) h1
/-- a loop that counts down to 0, from one above -/
theorem lp_dn {σ ρ : Type} (F : Nat → Nat → σ → Option ρ) (Inv : Nat → σ → Prop) (R : ρ → Prop) (hend : ∀ n s, Inv 0 s → ∃ r, F (n + 1) 0 s = some r ∧ R r)
    (hstep : ∀ n i s, Inv (i + 1) s → (∃ r, F (n + 1) (i + 1) s = some r ∧ R r) ∨ ∃ s', Inv i s' ∧ F (n + 1) (i + 1) s = F n i s') : ∀ (i n : Nat) (s : σ), i < n → Inv i s → ∃ r, F n i s = some r ∧ R r
  | _, 0, _, h, _ => absurd h (Nat.not_lt_zero _)
  | 0, n + 1, s, _, hi => hend n s hi
  | i + 1, n + 1, s, h, hi => by
    rcases hstep n i s hi with h1 | ⟨s', h1, h2⟩
    · exact h1
    · rw [h2]
      exact lp_dn F Inv R hend hstep i n s' (by omega) h1
/-- an int outside a range of places -/
def ixb (x : Int32) (n : Nat) : Prop := x < 0 ∨ (¬ x < 0 ∧ nI n ≤ x)
theorem ix_or (x : Int32) {n : Nat} (hn : n < 2 ^ 31) : ixb x n ∨ ∃ k, k < n ∧ x = nI k := by
  rcases pk_ix x hn with h | h | h
  · exact Or.inl (Or.inl h)
  · by_cases q : x < 0
    · exact Or.inl (Or.inl q)
    · exact Or.inl (Or.inr ⟨q, h⟩)
  · exact Or.inr h
theorem nI_m1 {a : Nat} (h : a < 2 ^ 30) : nI a - 1 = -1 ↔ a = 0 := by
  constructor
  · intro e
    have e2 := congrArg Int32.toInt e
    have := pk_sub_toInt (a := a) (b := 1) h (by decide)
    rw [show nI 1 = 1 from rfl] at this
    rw [this, show (-1 : Int32).toInt = -1 by decide] at e2
    omega
  · intro e
    subst e
    decide
theorem nI_t {n : Nat} (h : n < 2 ^ 31) : (nI n).toInt = n := nI_toInt h
theorem ne0 : ¬ (1 : Int32) = 0 := by decide
