/-! Sums and an alternating form over whole numbers. -/
def sm : Nat → (Nat → Int) → Int
  | 0, _ => 0
  | n + 1, f => sm n f + f n
theorem sm_congr {f g : Nat → Int} : ∀ {n : Nat}, (∀ i, i < n → f i = g i) → sm n f = sm n g
  | 0, _ => rfl
  | n + 1, h => by rw [sm, sm, sm_congr (fun i hi => h i (Nat.lt_succ_of_lt hi)), h n (Nat.lt_succ_self n)]
theorem sm_add (f g : Nat → Int) : ∀ n : Nat, sm n (fun i => f i + g i) = sm n f + sm n g
  | 0 => rfl
  | n + 1 => by rw [sm, sm, sm, sm_add f g n]; omega
theorem sm_mul (c : Int) (f : Nat → Int) : ∀ n : Nat, sm n (fun i => c * f i) = c * sm n f
  | 0 => by simp [sm]
  | n + 1 => by rw [sm, sm, sm_mul c f n, Int.mul_add]
theorem sm_neg (f : Nat → Int) (n : Nat) : sm n (fun i => - f i) = - sm n f := by
  have h := sm_mul (-1) f n
  rw [show (fun i => -1 * f i) = (fun i => - f i) from funext fun i => by omega] at h
  omega
theorem sm_sub (f g : Nat → Int) (n : Nat) : sm n (fun i => f i - g i) = sm n f - sm n g := by
  have h := sm_add f (fun i => - g i) n
  rw [sm_neg] at h
  rw [show (fun i => f i - g i) = (fun i => f i + - g i) from funext fun i => by omega, h]
  omega
theorem sm_zero {f : Nat → Int} {n : Nat} (h : ∀ i, i < n → f i = 0) : sm n f = 0 := by
  rw [sm_congr (g := fun _ => 0) h]
  induction n with
  | zero => rfl
  | succ n ih => rw [sm, ih (fun i hi => h i (Nat.lt_succ_of_lt hi))]; rfl
theorem sm_one {f : Nat → Int} {k : Nat} : ∀ {n : Nat}, k < n → (∀ i, i < n → i ≠ k → f i = 0) → sm n f = f k
  | 0, hk, _ => absurd hk (Nat.not_lt_zero k)
  | n + 1, hk, h => by
    rw [sm]
    by_cases e : k = n
    · subst e
      rw [sm_zero (fun i hi => h i (by omega) (by omega))]
      omega
    · rw [sm_one (n := n) (k := k) (by omega) (fun i hi hne => h i (by omega) hne), h n (by omega) (fun q => e q.symm)]
      omega
theorem sm_two {f : Nat → Int} {k q : Nat} : ∀ {n : Nat}, k < n → q < n → k ≠ q → (∀ i, i < n → i ≠ k → i ≠ q → f i = 0) → sm n f = f k + f q
  | 0, hk, _, _, _ => absurd hk (Nat.not_lt_zero k)
  | n + 1, hk, hq, hkq, h => by
    rw [sm]
    by_cases e : k = n
    · subst e
      rw [sm_one (n := k) (k := q) (by omega) (fun i hi hne => h i (by omega) (by omega) hne)]
      omega
    · by_cases e2 : q = n
      · subst e2
        rw [sm_one (n := q) (k := k) (by omega) (fun i hi hne => h i (by omega) hne (by omega))]
      · rw [sm_two (n := n) (k := k) (q := q) (by omega) (by omega) hkq (fun i hi h1 h2 => h i (by omega) h1 h2), h n (by omega) (by omega) (by omega)]
        omega
theorem sm_nn {f : Nat → Int} : ∀ {n : Nat}, (∀ i, i < n → 0 ≤ f i) → 0 ≤ sm n f
  | 0, _ => Int.le_refl 0
  | n + 1, h => by
    rw [sm]
    have h1 := sm_nn (n := n) (fun i hi => h i (by omega))
    have h2 := h n (by omega)
    omega
theorem sm_le {f g : Nat → Int} : ∀ {n : Nat}, (∀ i, i < n → f i ≤ g i) → sm n f ≤ sm n g
  | 0, _ => Int.le_refl 0
  | n + 1, h => by
    rw [sm, sm]
    have h1 := sm_le (n := n) (fun i hi => h i (by omega))
    have h2 := h n (by omega)
    omega
theorem sm_ge1 {f : Nat → Int} {k n : Nat} (hk : k < n) (h : ∀ i, i < n → 0 ≤ f i) : f k ≤ sm n f := by
  have h1 := sm_one (f := fun i => if i = k then f k else 0) hk (fun i _ hne => if_neg hne)
  rw [if_pos rfl] at h1
  rw [← h1]
  refine sm_le (fun i hi => ?_)
  by_cases e : i = k
  · subst e
    simp
  · rw [if_neg e]
    exact h i hi
theorem sm_comm (f : Nat → Nat → Int) (m : Nat) : ∀ n : Nat, sm n (fun i => sm m (f i)) = sm m (fun j => sm n (fun i => f i j))
  | 0 => by rw [sm]; exact (sm_zero (fun _ _ => rfl)).symm
  | n + 1 => by
    rw [sm, sm_comm f m n, ← sm_add]
    exact sm_congr (fun j _ => rfl)
theorem sm_split (f : Nat → Int) (a : Nat) : ∀ b : Nat, sm (a + b) f = sm a f + sm b (fun i => f (a + i))
  | 0 => by rw [Nat.add_zero, sm]; omega
  | b + 1 => by rw [← Nat.add_assoc, sm, sm_split f a b, sm]; omega
def sg (k : Nat) : Int := if k % 2 = 0 then 1 else -1
theorem sg_s (k : Nat) : sg (k + 1) = - sg k := by
  unfold sg
  by_cases h : k % 2 = 0
  · rw [if_pos h, if_neg (by omega)]
  · rw [if_neg h, if_pos (by omega)]
    rfl
theorem sg_2 (k : Nat) : sg (k + k) = 1 := by
  unfold sg
  rw [if_pos (by omega)]
def dt_drop (s : Nat) (T : Nat → Nat → Int) : Nat → Nat → Int := fun t => T (if t < s then t else t + 1)
def dt : Nat → (Nat → Nat → Int) → Int
  | 0, _ => 1
  | n + 1, T => sm (n + 1) (fun s => sg (s + n) * T s n * dt n (dt_drop s T))
theorem dt_congr : ∀ {n : Nat} {T T' : Nat → Nat → Int}, (∀ s r, s < n → r < n → T s r = T' s r) → dt n T = dt n T'
  | 0, _, _, _ => rfl
  | n + 1, T, T', h => by
    rw [dt, dt]
    refine sm_congr (fun s hs => ?_)
    rw [h s n hs (by omega), dt_congr (n := n) (T := dt_drop s T) (T' := dt_drop s T') (fun t r ht hr => ?_)]
    unfold dt_drop
    by_cases c : t < s
    · rw [if_pos c]
      exact h t r (by omega) (by omega)
    · rw [if_neg c]
      exact h (t + 1) r (by omega) (by omega)
theorem dt_drop_self (T : Nat → Nat → Int) (i : Nat) (w : Nat → Int) : dt_drop i (va_up T i w) = dt_drop i T := by
  funext t
  unfold dt_drop
  by_cases c : t < i
  · rw [if_pos c, va_up_ne _ _ (by omega)]
  · rw [if_neg c, va_up_ne _ _ (by omega)]
theorem dt_drop_up (T : Nat → Nat → Int) {s i : Nat} (h : i ≠ s) (w : Nat → Int) : dt_drop s (va_up T i w) = va_up (dt_drop s T) (if i < s then i else i - 1) w := by
  funext t
  unfold dt_drop
  by_cases c : i < s
  · rw [if_pos c]
    by_cases e : t = i
    · subst e
      rw [if_pos c, va_up_self, va_up_self]
    · rw [va_up_ne _ _ e]
      by_cases c2 : t < s
      · rw [if_pos c2, va_up_ne _ _ e]
      · rw [if_neg c2, va_up_ne _ _ (by omega)]
  · rw [if_neg c]
    by_cases e : t = i - 1
    · subst e
      rw [if_neg (by omega), va_up_self, show i - 1 + 1 = i by omega, va_up_self]
    · rw [va_up_ne _ _ e]
      by_cases c2 : t < s
      · rw [if_pos c2, va_up_ne _ _ (by omega)]
      · rw [if_neg c2, va_up_ne _ _ (by omega)]
theorem dt_lin (c d : Int) (u v : Nat → Int) : ∀ {n : Nat} (T : Nat → Nat → Int) {i : Nat}, i < n → dt n (va_up T i (fun r => c * u r + d * v r)) = c * dt n (va_up T i u) + d * dt n (va_up T i v)
  | 0, _, i, h => absurd h (Nat.not_lt_zero i)
  | n + 1, T, i, h => by
    rw [dt, dt, dt, ← sm_mul, ← sm_mul, ← sm_add]
    refine sm_congr (fun s hs => ?_)
    by_cases e : s = i
    · subst e
      rw [dt_drop_self, dt_drop_self, dt_drop_self, va_up_self, va_up_self, va_up_self]
      generalize sg (s + n) = a
      generalize dt n (dt_drop s T) = b
      generalize u n = x
      generalize v n = y
      grind
    · rw [dt_drop_up T (fun q => e q.symm), dt_drop_up T (fun q => e q.symm), dt_drop_up T (fun q => e q.symm), va_up_ne _ _ e, va_up_ne _ _ e, va_up_ne _ _ e]
      rw [dt_lin c d u v (n := n) (dt_drop s T) (i := if i < s then i else i - 1) (by split <;> omega)]
      generalize sg (s + n) = a
      generalize T s n = b
      generalize dt n (va_up (dt_drop s T) (if i < s then i else i - 1) u) = x
      generalize dt n (va_up (dt_drop s T) (if i < s then i else i - 1) v) = y
      grind
theorem dt_adj : ∀ {n : Nat} {T : Nat → Nat → Int} {i : Nat}, i + 1 < n → T i = T (i + 1) → dt n T = 0
  | 0, _, i, h, _ => absurd h (Nat.not_lt_zero _)
  | n + 1, T, i, h, e => by
    rw [dt, sm_two (k := i) (q := i + 1) (by omega) (by omega) (by omega) (fun s hs h1 h2 => ?_)]
    · have e2 : dt_drop (i + 1) T = dt_drop i T := by
        funext t
        unfold dt_drop
        by_cases c1 : t < i
        · rw [if_pos c1, if_pos (by omega)]
        · rw [if_neg c1]
          by_cases c2 : t = i
          · subst c2
            rw [if_pos (by omega), e]
          · rw [if_neg (by omega)]
      rw [e2, ← e, show i + 1 + n = (i + n) + 1 by omega, sg_s]
      generalize sg (i + n) = a
      generalize T i n = b
      generalize dt n (dt_drop i T) = x
      grind
    · have hz : dt n (dt_drop s T) = 0 := by
        by_cases c : s < i
        · refine dt_adj (n := n) (i := i - 1) (by omega) ?_
          unfold dt_drop
          rw [if_neg (by omega), if_neg (by omega), show i - 1 + 1 = i by omega]
          exact e
        · refine dt_adj (n := n) (i := i) (by omega) ?_
          unfold dt_drop
          rw [if_pos (by omega), if_pos (by omega)]
          exact e
      rw [hz, Int.mul_zero]
theorem dt_addv {n : Nat} (T : Nat → Nat → Int) {i : Nat} (h : i < n) (u v : Nat → Int) : dt n (va_up T i (fun r => u r + v r)) = dt n (va_up T i u) + dt n (va_up T i v) := by
  have q := dt_lin 1 1 u v T h
  rw [show (fun r => 1 * u r + 1 * v r) = (fun r => u r + v r) from funext fun r => by omega] at q
  omega
theorem up_comm {α : Type} (f : Nat → α) {i j : Nat} (h : i ≠ j) (x y : α) : va_up (va_up f i x) j y = va_up (va_up f j y) i x := by
  funext t
  unfold va_up
  by_cases c : t = i
  · subst c
    rw [if_pos rfl, if_neg h, if_pos rfl]
  · by_cases c2 : t = j
    · subst c2
      rw [if_pos rfl, if_neg c, if_pos rfl]
    · rw [if_neg c2, if_neg c, if_neg c, if_neg c2]
theorem up_id {α : Type} (f : Nat → α) (i : Nat) : va_up f i (f i) = f := by
  funext t
  unfold va_up
  by_cases c : t = i
  · rw [if_pos c, c]
  · rw [if_neg c]
/-- what an adjacent pair of equal slots gives: a swap turns the sign (the hypothesis is for any two places) -/
theorem dt_swap_of {n i j : Nat} (hi : i < n) (hj : j < n) (hij : i ≠ j) (alt : ∀ T : Nat → Nat → Int, T i = T j → dt n T = 0) (T : Nat → Nat → Int) (x y : Nat → Int) : dt n (va_up (va_up T i x) j y) = - dt n (va_up (va_up T i y) j x) := by
  have z := alt (va_up (va_up T i (fun r => x r + y r)) j (fun r => x r + y r)) (by rw [va_up_self, va_up_ne _ _ hij, va_up_self])
  rw [dt_addv _ hj, up_comm T hij, up_comm T hij, dt_addv _ hi, dt_addv _ hi] at z
  have zx := alt (va_up (va_up T j x) i x) (by rw [va_up_self, va_up_ne _ _ (fun q => hij q.symm), va_up_self])
  have zy := alt (va_up (va_up T j y) i y) (by rw [va_up_self, va_up_ne _ _ (fun q => hij q.symm), va_up_self])
  rw [up_comm T hij, up_comm T hij]
  omega
theorem dt_alt {n : Nat} : ∀ (k : Nat) {i : Nat} (T : Nat → Nat → Int), i + 1 + k < n → T i = T (i + 1 + k) → dt n T = 0
  | 0, i, T, h, e => dt_adj h e
  | k + 1, i, T, h, e => by
    have sw := dt_swap_of (n := n) (i := i + 1 + k) (j := i + 1 + (k + 1)) (by omega) h (by omega) (fun T' e' => dt_adj (i := i + 1 + k) (by omega) e') T (T (i + 1 + k)) (T (i + 1 + (k + 1)))
    rw [up_id, up_id] at sw
    rw [sw, dt_alt k (i := i) _ (by omega) ?_]
    · rfl
    · rw [va_up_ne _ _ (by omega), va_up_ne _ _ (by omega), va_up_ne _ _ (by omega), va_up_self]
      exact e
theorem dt_same {n i j : Nat} (hi : i < n) (hj : j < n) (hij : i ≠ j) (T : Nat → Nat → Int) (e : T i = T j) : dt n T = 0 := by
  rcases Nat.lt_or_gt_of_ne hij with q | q
  · exact dt_alt (j - i - 1) (i := i) T (by omega) (by rw [show i + 1 + (j - i - 1) = j by omega]; exact e)
  · exact dt_alt (i - j - 1) (i := j) T (by omega) (by rw [show j + 1 + (i - j - 1) = i by omega]; exact e.symm)
theorem dt_swap {n i j : Nat} (hi : i < n) (hj : j < n) (hij : i ≠ j) (T : Nat → Nat → Int) (x y : Nat → Int) : dt n (va_up (va_up T i x) j y) = - dt n (va_up (va_up T i y) j x) :=
  dt_swap_of hi hj hij (fun T' e => dt_same hi hj hij T' e) T x y
/-- the unit columns -/
def un (s r : Nat) : Int := if r = s then 1 else 0
theorem dt_un : ∀ n : Nat, dt n un = 1
  | 0 => rfl
  | n + 1 => by
    rw [dt, sm_one (k := n) (by omega) (fun s hs hne => ?_)]
    · rw [dt_congr (T := dt_drop n un) (T' := un) (fun t r ht hr => ?_), dt_un n, sg_2]
      · simp [un]
      · unfold dt_drop
        rw [if_pos ht]
    · have : un s n = 0 := if_neg (by omega)
      rw [this]
      simp
/-- the form is whole in a slot -/
theorem dt_sum {n i : Nat} (hi : i < n) (T : Nat → Nat → Int) (c : Nat → Int) (u : Nat → Nat → Int) : ∀ k : Nat, dt n (va_up T i (fun r => sm k (fun q => c q * u q r))) = sm k (fun q => c q * dt n (va_up T i (u q)))
  | 0 => by
    have h := dt_lin 0 0 (un 0) (un 0) T hi
    rw [show (fun r => 0 * un 0 r + 0 * un 0 r) = (fun r => sm 0 (fun q => c q * u q r)) from funext fun r => by simp [sm]] at h
    rw [h, sm]
    simp
  | k + 1 => by
    have h := dt_lin 1 (c k) (fun r => sm k (fun q => c q * u q r)) (u k) T hi
    rw [show (fun r => 1 * sm k (fun q => c q * u q r) + c k * u k r) = (fun r => sm (k + 1) (fun q => c q * u q r)) from funext fun r => by rw [sm]; omega] at h
    rw [h, dt_sum hi T c u k, sm]
    omega
theorem dt_hom {n i : Nat} (hi : i < n) (T : Nat → Nat → Int) (c : Int) (u : Nat → Int) : dt n (va_up T i (fun r => c * u r)) = c * dt n (va_up T i u) := by
  have h := dt_lin c 0 u u T hi
  rw [show (fun r => c * u r + 0 * u r) = (fun r => c * u r) from funext fun r => by omega] at h
  rw [h]
  omega
