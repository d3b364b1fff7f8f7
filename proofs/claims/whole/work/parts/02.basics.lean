/-! sums, arrays written in an order of their own, loops by a counter, numbers -/
def qp_s (g : Nat → Nat) : Nat → Nat
  | 0 => 0
  | n + 1 => qp_s g n + g n
theorem qp_s1 (g : Nat → Nat) (n : Nat) : qp_s g (n + 1) = qp_s g n + g n := rfl
theorem qp_s_sk {g : Nat → Nat} {a : Nat} : ∀ m, (∀ k, a ≤ k → k < a + m → g k = 0) → qp_s g (a + m) = qp_s g a := by
  intro m
  induction m with
  | zero => intro _; rfl
  | succ m ih =>
    intro h
    rw [← Nat.add_assoc, qp_s1, ih (fun k h1 h2 => h k h1 (by omega)), h (a + m) (by omega) (by omega)]
    rfl
theorem qp_s_skip {g : Nat → Nat} {a b : Nat} (hab : a ≤ b) (h : ∀ k, a ≤ k → k < b → g k = 0) : qp_s g b = qp_s g a := by
  obtain ⟨m, rfl⟩ : ∃ m, b = a + m := ⟨b - a, by omega⟩
  exact qp_s_sk m h
theorem qp_s_congr {g h : Nat → Nat} : ∀ n, (∀ k, k < n → g k = h k) → qp_s g n = qp_s h n := by
  intro n
  induction n with
  | zero => intro _; rfl
  | succ n ih =>
    intro e
    rw [qp_s1, qp_s1, ih (fun k hk => e k (by omega)), e n (by omega)]
theorem qp_s_le {g h : Nat → Nat} : ∀ n, (∀ k, k < n → g k ≤ h k) → qp_s g n ≤ qp_s h n := by
  intro n
  induction n with
  | zero => intro _; exact Nat.le_refl _
  | succ n ih =>
    intro e
    have h1 := ih (fun k hk => e k (by omega))
    have h2 := e n (by omega)
    rw [qp_s1, qp_s1]; omega
theorem qp_s_eq {g h : Nat → Nat} : ∀ n, (∀ k, k < n → g k ≤ h k) → qp_s g n = qp_s h n → ∀ k, k < n → g k = h k := by
  intro n
  induction n with
  | zero => intro _ _ k hk; omega
  | succ n ih =>
    intro e q k hk
    have h1 := qp_s_le n (fun k hk => e k (by omega))
    have h2 := e n (by omega)
    rw [qp_s1, qp_s1] at q
    by_cases hkn : k = n
    · subst hkn; omega
    · exact ih (fun k hk => e k (by omega)) (by omega) k (by omega)
theorem qp_s_lt {g h : Nat → Nat} {m : Nat} : ∀ n, (∀ k, k < n → g k ≤ h k) → m < n → g m < h m → qp_s g n < qp_s h n := by
  intro n
  induction n with
  | zero => intro _ h; omega
  | succ n ih =>
    intro e hm hl
    have h1 := qp_s_le n (fun k hk => e k (by omega))
    have h2 := e n (by omega)
    rw [qp_s1, qp_s1]
    by_cases hkn : m = n
    · subst hkn; omega
    · have := ih (fun k hk => e k (by omega)) (by omega) hl
      omega
theorem qp_s_bd {g : Nat → Nat} {c : Nat} : ∀ n, (∀ k, k < n → g k ≤ c) → qp_s g n ≤ c * n := by
  intro n
  induction n with
  | zero => intro _; exact Nat.le_refl _
  | succ n ih =>
    intro e
    have h1 := ih (fun k hk => e k (by omega))
    have h2 := e n (by omega)
    rw [qp_s1, Nat.mul_succ]; omega
/-- one point fewer -/
theorem qp_s_one {g h : Nat → Nat} {m : Nat} : ∀ n, m < n → (∀ k, k < n → k ≠ m → g k = h k) → g m = h m + 1 → qp_s g n = qp_s h n + 1 := by
  intro n
  induction n with
  | zero => intro h; omega
  | succ n ih =>
    intro hm e q
    rw [qp_s1, qp_s1]
    by_cases hkn : m = n
    · subst hkn
      rw [qp_s_congr m (fun k hk => e k (by omega) (by omega)), q]; omega
    · rw [ih (by omega) (fun k hk => e k (by omega)) q, e n (by omega) (by omega)]; omega
def qp_a (f T : Nat → Int32) (r : Nat → Nat) (k : Nat) : Nat → Int32 := fun j => if r j < k then T j else f j
theorem qp_a_0 (f T : Nat → Int32) (r : Nat → Nat) : qp_a f T r 0 = f := rfl
theorem qp_a_st {f T : Nat → Int32} {r : Nat → Nat} {k m : Nat} {v : Int32} (hr : ∀ j, r j = k ↔ j = m) (hv : v = T m) : upd (qp_a f T r k) m v = qp_a f T r (k + 1) := by
  funext j
  unfold upd qp_a
  by_cases h : j = m
  · have h1 := (hr j).mpr h
    rw [if_pos h, if_pos (by omega), hv, h]
  · have h1 : r j ≠ k := fun z => h ((hr j).mp z)
    rw [if_neg h]
    by_cases h2 : r j < k
    · rw [if_pos h2, if_pos (by omega)]
    · rw [if_neg h2, if_neg (by omega)]
theorem qp_a_skip {f T : Nat → Int32} {r : Nat → Nat} {a b : Nat} (hab : a ≤ b) (hr : ∀ j, r j < a ∨ b ≤ r j) : qp_a f T r b = qp_a f T r a := by
  funext j
  unfold qp_a
  rcases hr j with h | h
  · rw [if_pos h, if_pos (by omega)]
  · rw [if_neg (by omega), if_neg (by omega)]
theorem qp_a_rd {f T : Nat → Int32} {r : Nat → Nat} {k m : Nat} (h : ¬ r m < k) : qp_a f T r k m = f m := if_neg h
theorem qp_a_wr {f T : Nat → Int32} {r : Nat → Nat} {k m : Nat} (h : r m < k) : qp_a f T r k m = T m := if_pos h
/-- a loop whose whole state is said by its counter -/
theorem qp_lp (W : Nat → Nat → Prop) (a e : Nat) (hx : ∀ n, W (n + 1) e) (hs : ∀ n i, a ≤ i → i < e → W n (i + 1) → W (n + 1) i) : ∀ d i, a ≤ i → i + d = e → W (d + 1) i := by
  intro d
  induction d with
  | zero => intro i _ h; have h' : i = e := h; subst h'; exact hx 0
  | succ d ih => intro i h1 h2; exact hs (d + 1) i h1 (by omega) (ih (i + 1) (by omega) (by omega))
theorem qp_le (W : Nat → Nat → Prop) (a e : Nat) (h : a ≤ e) (hx : ∀ n, W (n + 1) e) (hs : ∀ n i, a ≤ i → i < e → W n (i + 1) → W (n + 1) i) : ∃ n, W n a :=
  ⟨_, qp_lp W a e hx hs (e - a) a (Nat.le_refl a) (by omega)⟩
theorem qp_i1 (p k : Nat) : 256 * nI p + nI k = nI (256 * p + k) := by
  rw [show (256 : Int32) = nI 256 from rfl, pk_mul, nI_add]
theorem qp_i2 (p x y : Nat) : 256 * nI p + 16 * nI x + nI y = nI (256 * p + 16 * x + y) := by
  rw [show (256 : Int32) = nI 256 from rfl, show (16 : Int32) = nI 16 from rfl, pk_mul, pk_mul, nI_add, nI_add]
theorem qp_i3 (x y : Nat) : 16 * nI x + nI y = nI (16 * x + y) := by
  rw [show (16 : Int32) = nI 16 from rfl, pk_mul, nI_add]
theorem qp_d16 {k : Nat} (h : k < 2 ^ 31) : nI k / 16 = nI (k / 16) := pk_div h (by decide) (by decide)
theorem qp_r16 {k : Nat} (h : k < 2 ^ 31) : nI k - nI k / 16 * 16 = nI (k % 16) := pk_rem h (by decide) (by decide)
theorem qp_d2 {k : Nat} (h : k < 2 ^ 31) : nI k / 2 = nI (k / 2) := pk_div h (by decide) (by decide)
theorem qp_r2 {k : Nat} (h : k < 2 ^ 31) : nI k - nI k / 2 * 2 = nI (k % 2) := pk_rem h (by decide) (by decide)
theorem qp_n16 : ¬ (16 : Int32) = 0 := by decide
theorem qp_n2 : ¬ (2 : Int32) = 0 := by decide
def qp_B (f : Nat → Int32) : Prop := ∀ i, f i = 0 ∨ f i = 1
theorem qp_nb {v : Int32} (h : v = 0 ∨ v = 1) : vp_nar .boolean v = v := by
  rcases h with rfl | rfl <;> decide
theorem qp_nn {v : Int32} (h : v = 0 ∨ v = 1) : narrow .boolean (.int v) = .int v := by
  rcases h with rfl | rfl <;> rfl
theorem qp_n0 : vp_nar .boolean 0 = 0 := by decide
theorem qp_n1 : vp_nar .boolean 1 = 1 := by decide
/-- what counts a set point -/
def qp_w (v : Int32) : Nat := if v = 0 then 0 else 1
theorem qp_w0 {v : Int32} (h : v = 0) : qp_w v = 0 := if_pos h
theorem qp_w1 {v : Int32} (h : ¬ v = 0) : qp_w v = 1 := if_neg h
/-- good and bad pictures -/
theorem qp_pic (v : Int32) : (∃ p, p < 3 ∧ v = nI p) ∨ ((∀ post : Int32 → Prop, post 0 → wpX_isPicture post v) ∧ (∀ (post : Int32 → Prop) (a b c : Nat → Int32), post 1 → wpY_bad post (a, b, c) v)) := by
  rcases pk_ix v (n := 3) (by decide) with h | h | ⟨j, hj, e⟩
  · exact Or.inr ⟨fun post hp => br_t h hp, fun post a b c hp => br_t h hp⟩
  · refine Or.inr ⟨fun post hp => br_c (fun _ => hp) (fun _ => br_t h hp), fun post a b c hp => br_c (fun _ => hp) (fun h0 => br_f ?_ hp)⟩
    obtain ⟨j, hj, rfl⟩ := nI_of h0
    rw [nI_leI (by decide) hj] at h
    exact nI_ge (b := j) (a := 2) (by omega) hj
  · exact Or.inl ⟨j, hj, e⟩
theorem qp_px {p : Nat} (hp : p < 3) {post : Int32 → Prop} (h : post 1) : wpX_isPicture post (nI p) :=
  br_f (nI_pos (by omega)) (br_f (nI_ge (b := 3) hp (by decide)) h)
theorem qp_py {p : Nat} (hp : p < 3) {post : Int32 → Prop} {a b c : Nat → Int32} (h : post 0) : wpY_bad post (a, b, c) (nI p) :=
  br_f (nI_pos (by omega)) (br_t (nI_le (b := 2) (by omega) (by decide)) h)
theorem qp_10 : ¬ (1 : Int32) = 0 := by decide
