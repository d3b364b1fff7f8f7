section
/-! rows pasted from kit/rows (PURE-ROWS) -/
theorem pk_us {f : Nat → Int32} {k : Nat} {x : Int32} : upd f k x k = x := if_pos rfl
theorem pk_un {f : Nat → Int32} {k j : Nat} {x : Int32} (h : j ≠ k) : upd f k x j = f j := if_neg h
theorem pk_sub {a b : Nat} (h : b ≤ a) : nI a - nI b = nI (a - b) := by
  obtain ⟨c, rfl⟩ : ∃ c, a = c + b := ⟨a - b, by omega⟩
  rw [← nI_add, Int32.add_sub_cancel, Nat.add_sub_cancel]
theorem pk_m1 (n : Nat) : nI (n + 1) + (-1) = nI n := by
  rw [← nI_1, Int32.add_assoc, show (1 : Int32) + (-1) = 0 from rfl, Int32.add_zero]
theorem pk_mul (a b : Nat) : nI a * nI b = nI (a * b) := (Int32.ofNat_mul a b).symm
theorem pk_div {a d : Nat} (ha : a < 2 ^ 31) (h0 : 0 < d) (hd : d < 2 ^ 31) : nI a / nI d = nI (a / d) := by
  apply Int32.toInt_inj.mp
  rw [lg_idiv_nonneg (by rw [nI_toInt ha]; omega) (by rw [nI_toInt hd]; omega), nI_toInt ha, nI_toInt hd, nI_toInt (Nat.lt_of_le_of_lt (Nat.div_le_self a d) ha)]
  first | rfl | exact (Int.natCast_ediv _ _).symm
theorem pk_rem {a d : Nat} (ha : a < 2 ^ 31) (h0 : 0 < d) (hd : d < 2 ^ 31) : nI a - nI a / nI d * nI d = nI (a % d) := by
  rw [pk_div ha h0 hd, pk_mul, pk_sub (Nat.div_mul_le_self a d)]
  exact congrArg nI (by have := Nat.div_add_mod' a d; omega)
theorem pk_sub_toInt {a b : Nat} (ha : a < 2 ^ 30) (hb : b < 2 ^ 30) : (nI a - nI b).toInt = (a : Int) - b := by
  rw [Int32.toInt_sub, nI_toInt (by omega), nI_toInt (by omega)]
  exact Int.bmod_eq_of_le (by omega) (by omega)
theorem pk_sneg {a b : Nat} (hb : b < 2 ^ 30) (h : a < b) : nI a - nI b < 0 := by
  rw [Int32.lt_iff_toInt_lt, pk_sub_toInt (by omega) hb, show (0 : Int32).toInt = 0 from by decide]
  omega
theorem pk_ix (x : Int32) {n : Nat} (hn : n < 2 ^ 31) : x < 0 ∨ nI n ≤ x ∨ ∃ j : Nat, j < n ∧ x = nI j := by
  by_cases h : x < 0
  · exact Or.inl h
  · obtain ⟨j, hj, rfl⟩ := nI_of h
    by_cases h2 : j < n
    · exact Or.inr (Or.inr ⟨j, h2, rfl⟩)
    · exact Or.inr (Or.inl (nI_le (by omega) hj))
theorem pk_le {x y : Int32} {A B : Prop} (a b : Nat) (f : a ≤ b → A) (g : b < a → B) (hx : x = nI a := by rfl) (hy : y = nI b := by rfl) (ha : a < 2 ^ 31 := by omega) (hb : b < 2 ^ 31 := by omega) : (x ≤ y → A) ∧ (¬ x ≤ y → B) := by
  subst hx hy
  rw [nI_leI ha hb]
  exact ⟨f, fun z => g (by omega)⟩
theorem pk_lt {x y : Int32} {A B : Prop} (a b : Nat) (f : a < b → A) (g : b ≤ a → B) (hx : x = nI a := by rfl) (hy : y = nI b := by rfl) (ha : a < 2 ^ 31 := by omega) (hb : b < 2 ^ 31 := by omega) : (x < y → A) ∧ (¬ x < y → B) := by
  subst hx hy
  rw [nI_ltI ha hb]
  exact ⟨f, fun z => g (by omega)⟩
theorem pk_eq {x y : Int32} {A B : Prop} (a b : Nat) (f : a = b → A) (g : a ≠ b → B) (hx : x = nI a := by rfl) (hy : y = nI b := by rfl) (ha : a < 2 ^ 31 := by omega) (hb : b < 2 ^ 31 := by omega) : (x = y → A) ∧ (¬ x = y → B) := by
  subst hx hy
  rw [nI_eq ha hb]
  exact ⟨f, g⟩
theorem pk_in {x : Int32} (n N : Nat) (h : n < N) (hx : x = nI n := by rfl) (hN : N < 2 ^ 31 := by omega) : vp_in x N := by
  subst hx
  exact vp_in_nI h hN
theorem pk_cl {x : Int32} (n : Nat) (hx : x = nI n := by rfl) (h : n < 2 ^ 31 := by omega) : x.toNatClampNeg = n := by
  subst hx
  exact nI_clamp h
end
section
/-! sums, arrays written in an order of their own, loops by a counter, numbers -/
def qp_s (g : Nat → Nat) : Nat → Nat
  | 0 => 0
  | n + 1 => qp_s g n + g n
theorem qp_s1 (g : Nat → Nat) (n : Nat) : qp_s g (n + 1) = qp_s g n + g n := rfl
theorem qp_s_sk {g : Nat → Nat} {a : Nat} : ∀ m, (∀ k, a ≤ k → k < a + m → g k = 0) → qp_s g (a + m) = qp_s g a := by
  intro m
  induction m with
  | zero => intro _; rfl
  | succ m ih =>
    intro h
    rw [← Nat.add_assoc, qp_s1, ih (fun k h1 h2 => h k h1 (by omega)), h (a + m) (by omega) (by omega)]
    rfl
theorem qp_s_skip {g : Nat → Nat} {a b : Nat} (hab : a ≤ b) (h : ∀ k, a ≤ k → k < b → g k = 0) : qp_s g b = qp_s g a := by
  obtain ⟨m, rfl⟩ : ∃ m, b = a + m := ⟨b - a, by omega⟩
  exact qp_s_sk m h
theorem qp_s_congr {g h : Nat → Nat} : ∀ n, (∀ k, k < n → g k = h k) → qp_s g n = qp_s h n := by
  intro n
  induction n with
  | zero => intro _; rfl
  | succ n ih =>
    intro e
    rw [qp_s1, qp_s1, ih (fun k hk => e k (by omega)), e n (by omega)]
theorem qp_s_le {g h : Nat → Nat} : ∀ n, (∀ k, k < n → g k ≤ h k) → qp_s g n ≤ qp_s h n := by
  intro n
  induction n with
  | zero => intro _; exact Nat.le_refl _
  | succ n ih =>
    intro e
    have h1 := ih (fun k hk => e k (by omega))
    have h2 := e n (by omega)
    rw [qp_s1, qp_s1]; omega
theorem qp_s_eq {g h : Nat → Nat} : ∀ n, (∀ k, k < n → g k ≤ h k) → qp_s g n = qp_s h n → ∀ k, k < n → g k = h k := by
  intro n
  induction n with
  | zero => intro _ _ k hk; omega
  | succ n ih =>
    intro e q k hk
    have h1 := qp_s_le n (fun k hk => e k (by omega))
    have h2 := e n (by omega)
    rw [qp_s1, qp_s1] at q
    by_cases hkn : k = n
    · subst hkn; omega
    · exact ih (fun k hk => e k (by omega)) (by omega) k (by omega)
theorem qp_s_lt {g h : Nat → Nat} {m : Nat} : ∀ n, (∀ k, k < n → g k ≤ h k) → m < n → g m < h m → qp_s g n < qp_s h n := by
  intro n
  induction n with
  | zero => intro _ h; omega
  | succ n ih =>
    intro e hm hl
    have h1 := qp_s_le n (fun k hk => e k (by omega))
    have h2 := e n (by omega)
    rw [qp_s1, qp_s1]
    by_cases hkn : m = n
    · subst hkn; omega
    · have := ih (fun k hk => e k (by omega)) (by omega) hl
      omega
theorem qp_s_bd {g : Nat → Nat} {c : Nat} : ∀ n, (∀ k, k < n → g k ≤ c) → qp_s g n ≤ c * n := by
  intro n
  induction n with
  | zero => intro _; exact Nat.le_refl _
  | succ n ih =>
    intro e
    have h1 := ih (fun k hk => e k (by omega))
    have h2 := e n (by omega)
    rw [qp_s1, Nat.mul_succ]; omega
/-- one point fewer -/
theorem qp_s_one {g h : Nat → Nat} {m : Nat} : ∀ n, m < n → (∀ k, k < n → k ≠ m → g k = h k) → g m = h m + 1 → qp_s g n = qp_s h n + 1 := by
  intro n
  induction n with
  | zero => intro h; omega
  | succ n ih =>
    intro hm e q
    rw [qp_s1, qp_s1]
    by_cases hkn : m = n
    · subst hkn
      rw [qp_s_congr m (fun k hk => e k (by omega) (by omega)), q]; omega
    · rw [ih (by omega) (fun k hk => e k (by omega)) q, e n (by omega) (by omega)]; omega
def qp_a (f T : Nat → Int32) (r : Nat → Nat) (k : Nat) : Nat → Int32 := fun j => if r j < k then T j else f j
theorem qp_a_0 (f T : Nat → Int32) (r : Nat → Nat) : qp_a f T r 0 = f := rfl
theorem qp_a_st {f T : Nat → Int32} {r : Nat → Nat} {k m : Nat} {v : Int32} (hr : ∀ j, r j = k ↔ j = m) (hv : v = T m) : upd (qp_a f T r k) m v = qp_a f T r (k + 1) := by
  funext j
  unfold upd qp_a
  by_cases h : j = m
  · have h1 := (hr j).mpr h
    rw [if_pos h, if_pos (by omega), hv, h]
  · have h1 : r j ≠ k := fun z => h ((hr j).mp z)
    rw [if_neg h]
    by_cases h2 : r j < k
    · rw [if_pos h2, if_pos (by omega)]
    · rw [if_neg h2, if_neg (by omega)]
theorem qp_a_skip {f T : Nat → Int32} {r : Nat → Nat} {a b : Nat} (hab : a ≤ b) (hr : ∀ j, r j < a ∨ b ≤ r j) : qp_a f T r b = qp_a f T r a := by
  funext j
  unfold qp_a
  rcases hr j with h | h
  · rw [if_pos h, if_pos (by omega)]
  · rw [if_neg (by omega), if_neg (by omega)]
theorem qp_a_rd {f T : Nat → Int32} {r : Nat → Nat} {k m : Nat} (h : ¬ r m < k) : qp_a f T r k m = f m := if_neg h
theorem qp_a_wr {f T : Nat → Int32} {r : Nat → Nat} {k m : Nat} (h : r m < k) : qp_a f T r k m = T m := if_pos h
/-- a loop whose whole state is said by its counter -/
theorem qp_lp (W : Nat → Nat → Prop) (a e : Nat) (hx : ∀ n, W (n + 1) e) (hs : ∀ n i, a ≤ i → i < e → W n (i + 1) → W (n + 1) i) : ∀ d i, a ≤ i → i + d = e → W (d + 1) i := by
  intro d
  induction d with
  | zero => intro i _ h; have h' : i = e := h; subst h'; exact hx 0
  | succ d ih => intro i h1 h2; exact hs (d + 1) i h1 (by omega) (ih (i + 1) (by omega) (by omega))
theorem qp_le (W : Nat → Nat → Prop) (a e : Nat) (h : a ≤ e) (hx : ∀ n, W (n + 1) e) (hs : ∀ n i, a ≤ i → i < e → W n (i + 1) → W (n + 1) i) : ∃ n, W n a :=
  ⟨_, qp_lp W a e hx hs (e - a) a (Nat.le_refl a) (by omega)⟩
theorem qp_i1 (p k : Nat) : 256 * nI p + nI k = nI (256 * p + k) := by
  rw [show (256 : Int32) = nI 256 from rfl, pk_mul, nI_add]
theorem qp_i2 (p x y : Nat) : 256 * nI p + 16 * nI x + nI y = nI (256 * p + 16 * x + y) := by
  rw [show (256 : Int32) = nI 256 from rfl, show (16 : Int32) = nI 16 from rfl, pk_mul, pk_mul, nI_add, nI_add]
theorem qp_i3 (x y : Nat) : 16 * nI x + nI y = nI (16 * x + y) := by
  rw [show (16 : Int32) = nI 16 from rfl, pk_mul, nI_add]
theorem qp_d16 {k : Nat} (h : k < 2 ^ 31) : nI k / 16 = nI (k / 16) := pk_div h (by decide) (by decide)
theorem qp_r16 {k : Nat} (h : k < 2 ^ 31) : nI k - nI k / 16 * 16 = nI (k % 16) := pk_rem h (by decide) (by decide)
theorem qp_d2 {k : Nat} (h : k < 2 ^ 31) : nI k / 2 = nI (k / 2) := pk_div h (by decide) (by decide)
theorem qp_r2 {k : Nat} (h : k < 2 ^ 31) : nI k - nI k / 2 * 2 = nI (k % 2) := pk_rem h (by decide) (by decide)
theorem qp_n16 : ¬ (16 : Int32) = 0 := by decide
theorem qp_n2 : ¬ (2 : Int32) = 0 := by decide
def qp_B (f : Nat → Int32) : Prop := ∀ i, f i = 0 ∨ f i = 1
theorem qp_nb {v : Int32} (h : v = 0 ∨ v = 1) : vp_nar .boolean v = v := by
  rcases h with rfl | rfl <;> decide
theorem qp_nn {v : Int32} (h : v = 0 ∨ v = 1) : narrow .boolean (.int v) = .int v := by
  rcases h with rfl | rfl <;> rfl
theorem qp_n0 : vp_nar .boolean 0 = 0 := by decide
theorem qp_n1 : vp_nar .boolean 1 = 1 := by decide
/-- what counts a set point -/
def qp_w (v : Int32) : Nat := if v = 0 then 0 else 1
theorem qp_w0 {v : Int32} (h : v = 0) : qp_w v = 0 := if_pos h
theorem qp_w1 {v : Int32} (h : ¬ v = 0) : qp_w v = 1 := if_neg h
/-- good and bad pictures -/
theorem qp_pic (v : Int32) : (∃ p, p < 3 ∧ v = nI p) ∨ ((∀ post : Int32 → Prop, post 0 → wpX_isPicture post v) ∧ (∀ (post : Int32 → Prop) (a b c : Nat → Int32), post 1 → wpY_bad post (a, b, c) v)) := by
  rcases pk_ix v (n := 3) (by decide) with h | h | ⟨j, hj, e⟩
  · exact Or.inr ⟨fun post hp => br_t h hp, fun post a b c hp => br_t h hp⟩
  · refine Or.inr ⟨fun post hp => br_c (fun _ => hp) (fun _ => br_t h hp), fun post a b c hp => br_c (fun _ => hp) (fun h0 => br_f ?_ hp)⟩
    obtain ⟨j, hj, rfl⟩ := nI_of h0
    rw [nI_leI (by decide) hj] at h
    exact nI_ge (b := j) (a := 2) (by omega) hj
  · exact Or.inl ⟨j, hj, e⟩
theorem qp_px {p : Nat} (hp : p < 3) {post : Int32 → Prop} (h : post 1) : wpX_isPicture post (nI p) :=
  br_f (nI_pos (by omega)) (br_f (nI_ge (b := 3) hp (by decide)) h)
theorem qp_py {p : Nat} (hp : p < 3) {post : Int32 → Prop} {a b c : Nat → Int32} (h : post 0) : wpY_bad post (a, b, c) (nI p) :=
  br_f (nI_pos (by omega)) (br_t (nI_le (b := 2) (by omega) (by decide)) h)
theorem qp_10 : ¬ (1 : Int32) = 0 := by decide
end
section
/-! points, frames, counting -/
theorem qp_pt (v w : Int32) : (∃ x y, x < 16 ∧ y < 16 ∧ v = nI x ∧ w = nI y) ∨ ((∀ post : Int32 → Prop, post 0 → wpX_isPoint post v w) ∧ (∀ (post : Int32 → Prop) (a b c : Nat → Int32), post 1 → wpY_out post (a, b, c) v w)) := by
  rcases pk_ix v (n := 16) (by decide) with h | h | ⟨x, hx, rfl⟩
  · exact Or.inr ⟨fun post hp => br_t h hp, fun post a b c hp => br_t h hp⟩
  · refine Or.inr ⟨fun post hp => br_c (fun _ => hp) (fun _ => br_t h hp), fun post a b c hp => br_c (fun _ => hp) (fun h0 => br_t ?_ hp)⟩
    obtain ⟨j, hj, rfl⟩ := nI_of h0
    rw [nI_leI (by decide) hj] at h
    exact nI_lt (a := 15) (b := j) (by omega) hj
  · have h0 : ¬ nI x < 0 := nI_pos (by omega)
    have h1 : ¬ (16 : Int32) ≤ nI x := nI_ge (b := 16) hx (by decide)
    have h2 : ¬ (15 : Int32) < nI x := nI_nlt (a := 15) (by omega) (by decide)
    rcases pk_ix w (n := 16) (by decide) with h | h | ⟨y, hy, rfl⟩
    · exact Or.inr ⟨fun post hp => br_f h0 (br_f h1 (br_t h hp)), fun post a b c hp => br_f h0 (br_f h2 (br_t h hp))⟩
    · refine Or.inr ⟨fun post hp => br_f h0 (br_f h1 (br_c (fun _ => hp) (fun _ => br_t h hp))), fun post a b c hp => br_f h0 (br_f h2 (br_c (fun _ => hp) (fun h3 => br_f ?_ hp)))⟩
      obtain ⟨j, hj, rfl⟩ := nI_of h3
      rw [nI_leI (by decide) hj] at h
      exact nI_ge (a := 15) (b := j) (by omega) hj
    · exact Or.inl ⟨x, y, hx, hy, rfl, rfl⟩
theorem qp_ptx {x y : Nat} (hx : x < 16) (hy : y < 16) {post : Int32 → Prop} (h : post 1) : wpX_isPoint post (nI x) (nI y) :=
  br_f (nI_pos (by omega)) (br_f (nI_ge (b := 16) hx (by decide)) (br_f (nI_pos (by omega)) (br_f (nI_ge (b := 16) hy (by decide)) h)))
theorem qp_pty {x y : Nat} (hx : x < 16) (hy : y < 16) {post : Int32 → Prop} {a b c : Nat → Int32} (h : post 0) : wpY_out post (a, b, c) (nI x) (nI y) :=
  br_f (nI_pos (by omega)) (br_f (nI_nlt (a := 15) (by omega) (by decide)) (br_f (nI_pos (by omega)) (br_t (nI_le (b := 15) (by omega) (by decide)) h)))
theorem qp_fr (v w : Int32) : (∃ lo hi, lo < 256 ∧ hi < 256 ∧ lo / 16 ≤ hi / 16 ∧ lo % 16 ≤ hi % 16 ∧ v = nI lo ∧ w = nI hi) ∨ ((∀ post : Int32 → Prop, post 0 → wpX_isRectangle post v w) ∧ (∀ (post : Int32 → Prop) (a b c : Nat → Int32), post 1 → wpY_badFrame post (a, b, c) v w)) := by
  rcases pk_ix v (n := 256) (by decide) with h | h | ⟨x, hx, rfl⟩
  · exact Or.inr ⟨fun post hp => br_t h hp, fun post a b c hp => br_t h hp⟩
  · have q : ¬ v < 0 → (255 : Int32) < v := by
      intro h0
      obtain ⟨j, hj, rfl⟩ := nI_of h0
      rw [nI_leI (by decide) hj] at h
      exact nI_lt (a := 255) (b := j) (by omega) hj
    exact Or.inr ⟨fun post hp => br_c (fun _ => hp) (fun h0 => br_t (q h0) hp), fun post a b c hp => br_c (fun _ => hp) (fun h0 => br_t (q h0) hp)⟩
  · have h0 : ¬ nI x < 0 := nI_pos (by omega)
    have h2 : ¬ (255 : Int32) < nI x := nI_nlt (a := 255) (by omega) (by decide)
    rcases pk_ix w (n := 256) (by decide) with h | h | ⟨y, hy, rfl⟩
    · exact Or.inr ⟨fun post hp => br_f h0 (br_f h2 (br_t h hp)), fun post a b c hp => br_f h0 (br_f h2 (br_t h hp))⟩
    · have q : ¬ w < 0 → ¬ w ≤ (255 : Int32) := by
        intro h0
        obtain ⟨j, hj, rfl⟩ := nI_of h0
        rw [nI_leI (by decide) hj] at h
        exact nI_ge (a := 255) (b := j) (by omega) hj
      exact Or.inr ⟨fun post hp => br_f h0 (br_f h2 (br_c (fun _ => hp) (fun h3 => br_f (q h3) hp))), fun post a b c hp => br_f h0 (br_f h2 (br_c (fun _ => hp) (fun h3 => br_f (q h3) hp)))⟩
    · have h3 : ¬ nI y < 0 := nI_pos (by omega)
      have h4 : nI y ≤ (255 : Int32) := nI_le (b := 255) (by omega) (by decide)
      by_cases hq : x / 16 ≤ y / 16
      · have h5 : ¬ nI y / 16 < nI x / 16 := by
          rw [qp_d16 (by omega), qp_d16 (by omega)]
          exact nI_nlt hq (by omega)
        by_cases hr : x % 16 ≤ y % 16
        · exact Or.inl ⟨x, y, hx, hy, hq, hr, rfl, rfl⟩
        · have h6 : (nI y - nI y / 16 * 16) < (nI x - nI x / 16 * 16) := by
            rw [qp_r16 (by omega), qp_r16 (by omega)]
            exact nI_lt (by omega) (by omega)
          have h7 : ¬ (nI x - nI x / 16 * 16) ≤ (nI y - nI y / 16 * 16) := by
            rw [qp_r16 (by omega), qp_r16 (by omega)]
            exact nI_ge (by omega) (by omega)
          exact Or.inr ⟨fun post hp => br_f h0 (br_f h2 (br_f h3 (br_t h4 (And.intro qp_n16 (And.intro qp_n16 (br_f h5 (And.intro qp_n16 (And.intro qp_n16 (br_t h6 hp))))))))), fun post a b c hp => br_f h0 (br_f h2 (br_f h3 (br_t h4 (And.intro qp_n16 (And.intro qp_n16 (br_f h5 (And.intro qp_n16 (And.intro qp_n16 (br_f h7 hp)))))))))⟩
      · have h5 : nI y / 16 < nI x / 16 := by
          rw [qp_d16 (by omega), qp_d16 (by omega)]
          exact nI_lt (by omega) (by omega)
        exact Or.inr ⟨fun post hp => br_f h0 (br_f h2 (br_f h3 (br_t h4 (And.intro qp_n16 (And.intro qp_n16 (br_t h5 hp)))))), fun post a b c hp => br_f h0 (br_f h2 (br_f h3 (br_t h4 (And.intro qp_n16 (And.intro qp_n16 (br_t h5 hp))))))⟩
theorem qp_frx {x y : Nat} (hx : x < 256) (hy : y < 256) (hq : x / 16 ≤ y / 16) (hr : x % 16 ≤ y % 16) {post : Int32 → Prop} (h : post 1) : wpX_isRectangle post (nI x) (nI y) := by
  have h5 : ¬ nI y / 16 < nI x / 16 := by
    rw [qp_d16 (by omega), qp_d16 (by omega)]
    exact nI_nlt hq (by omega)
  have h6 : ¬ (nI y - nI y / 16 * 16) < (nI x - nI x / 16 * 16) := by
    rw [qp_r16 (by omega), qp_r16 (by omega)]
    exact nI_nlt (by omega) (by omega)
  exact br_f (nI_pos (by omega)) (br_f (nI_nlt (a := 255) (by omega) (by decide)) (br_f (nI_pos (by omega)) (br_t (nI_le (b := 255) (by omega) (by decide)) (And.intro qp_n16 (And.intro qp_n16 (br_f h5 (And.intro qp_n16 (And.intro qp_n16 (br_f h6 h)))))))))
theorem qp_fry {x y : Nat} (hx : x < 256) (hy : y < 256) (hq : x / 16 ≤ y / 16) (hr : x % 16 ≤ y % 16) {post : Int32 → Prop} {a b c : Nat → Int32} (h : post 0) : wpY_badFrame post (a, b, c) (nI x) (nI y) := by
  have h5 : ¬ nI y / 16 < nI x / 16 := by
    rw [qp_d16 (by omega), qp_d16 (by omega)]
    exact nI_nlt hq (by omega)
  have h6 : (nI x - nI x / 16 * 16) ≤ (nI y - nI y / 16 * 16) := by
    rw [qp_r16 (by omega), qp_r16 (by omega)]
    exact nI_le (by omega) (by omega)
  exact br_f (nI_pos (by omega)) (br_f (nI_nlt (a := 255) (by omega) (by decide)) (br_f (nI_pos (by omega)) (br_t (nI_le (b := 255) (by omega) (by decide)) (And.intro qp_n16 (And.intro qp_n16 (br_f h5 (And.intro qp_n16 (And.intro qp_n16 (br_t h6 h)))))))))
/-- k lies in the frame -/
def qp_ins (lo hi k : Nat) : Prop := lo / 16 ≤ k / 16 ∧ k / 16 ≤ hi / 16 ∧ lo % 16 ≤ k % 16 ∧ k % 16 ≤ hi % 16
theorem qp_insy {k lo hi : Nat} (hk : k < 256) (hl : lo < 256) (hh : hi < 256) {post : Int32 → Prop} {a b c : Nat → Int32} (h1 : qp_ins lo hi k → post 1) (h0 : ¬ qp_ins lo hi k → post 0) : wpY_inside post (a, b, c) (nI k) (nI lo) (nI hi) := by
  refine And.intro qp_n16 (And.intro qp_n16 (pk_lt (k / 16) (lo / 16) (fun z => h0 (fun q => ?_)) (fun z1 => And.intro qp_n16 (And.intro qp_n16 (pk_lt (hi / 16) (k / 16) (fun z => h0 (fun q => ?_)) (fun z2 => And.intro qp_n16 (And.intro qp_n16 (pk_lt (k % 16) (lo % 16) (fun z => h0 (fun q => ?_)) (fun z3 => And.intro qp_n16 (And.intro qp_n16 (pk_lt (hi % 16) (k % 16) (fun z => h0 (fun q => ?_)) (fun z4 => h1 ⟨z1, z2, z3, z4⟩) (qp_r16 (by omega)) (qp_r16 (by omega))))) (qp_r16 (by omega)) (qp_r16 (by omega))))) (qp_d16 (by omega)) (qp_d16 (by omega))))) (qp_d16 (by omega)) (qp_d16 (by omega))))
  · unfold qp_ins at q; omega
  · unfold qp_ins at q; omega
  · unfold qp_ins at q; omega
  · unfold qp_ins at q; omega
/-- the sum that a count in a frame is -/
noncomputable def qp_g (f : Nat → Int32) (p lo hi k : Nat) : Nat := if lo / 16 ≤ k / 16 ∧ k / 16 ≤ hi / 16 ∧ lo % 16 ≤ k % 16 ∧ k % 16 ≤ hi % 16 then qp_w (f (256 * p + k)) else 0
theorem qp_g_in {f : Nat → Int32} {p lo hi k : Nat} (h : qp_ins lo hi k) : qp_g f p lo hi k = qp_w (f (256 * p + k)) := if_pos h
theorem qp_g_out {f : Nat → Int32} {p lo hi k : Nat} (h : ¬ qp_ins lo hi k) : qp_g f p lo hi k = 0 := if_neg h
/-- X's inner counting loop -/
theorem qp_c24 {post : Int32 → Prop} {J : Int32 → Int32 → Prop} {f d l : Nat → Int32} {p lo hi x : Nat} (hp : p < 3) (hl : lo < 256) (hh : hi < 256) (hx1 : lo / 16 ≤ x) (hx2 : x ≤ hi / 16) (hr : lo % 16 ≤ hi % 16) (h : J (nI (qp_s (qp_g f p lo hi) (16 * x + (hi % 16 + 1)))) (nI (x + 1))) :
    ∃ n, wX_countIn_24 post J (nI p) (nI lo) (nI hi) (nI x) f d l n (nI (qp_s (qp_g f p lo hi) (16 * x + lo % 16))) (nI (lo % 16)) := by
  refine qp_le (fun n y => wX_countIn_24 post J (nI p) (nI lo) (nI hi) (nI x) f d l n (nI (qp_s (qp_g f p lo hi) (16 * x + y))) (nI y)) (lo % 16) (hi % 16 + 1) (by omega) ?_ ?_
  · intro n
    refine And.intro qp_n16 (br_t ?_ (nm_r (nI_1 x) h))
    rw [qp_r16 (by omega)]
    exact nI_lt (by omega) (by omega)
  · intro n y h1 h2 W
    have hb : ¬ (nI hi - nI hi / 16 * 16) < nI y := by
      rw [qp_r16 (by omega)]
      exact nI_nlt (by omega) (by omega)
    have ei : (256 * nI p + 16 * nI x + nI y).toNatClampNeg = 256 * p + (16 * x + y) := by
      rw [qp_i2, nI_clamp (by omega)]; omega
    have eg : qp_s (qp_g f p lo hi) (16 * x + (y + 1)) = qp_s (qp_g f p lo hi) (16 * x + y) + qp_w (f (256 * p + (16 * x + y))) := by
      rw [← Nat.add_assoc, qp_s1, qp_g_in]
      unfold qp_ins; omega
    refine And.intro qp_n16 (br_f hb (And.intro ?_ ?_))
    · rw [qp_i2]; exact vp_in_nI (by omega) (by decide)
    · rw [ei]
      refine br_c (fun z => nm_r (nI_1 y) ?_) (fun z => nm_r (nI_1 _) (nm_r (nI_1 y) ?_))
      · rw [eg, qp_w0 z] at W; exact W
      · rw [eg, qp_w1 z] at W; exact W
theorem qp_cx {post : Int32 → Prop} {f d l : Nat → Int32} {p lo hi : Nat} (hp : p < 3) (hl : lo < 256) (hh : hi < 256) (hq : lo / 16 ≤ hi / 16) (hr : lo % 16 ≤ hi % 16) (h : post (nI (qp_s (qp_g f p lo hi) 256))) :
    wpX_countIn post (f, d, l) (nI p) (nI lo) (nI hi) := by
  refine And.intro qp_n16 (nm_r (qp_d16 (by omega)) ?_)
  have key : ∃ n, wX_countIn_9 post (nI p) (nI lo) (nI hi) f d l n (nI (qp_s (qp_g f p lo hi) (16 * (lo / 16)))) (nI (lo / 16)) := by
    refine qp_le (fun n x => wX_countIn_9 post (nI p) (nI lo) (nI hi) f d l n (nI (qp_s (qp_g f p lo hi) (16 * x))) (nI x)) (lo / 16) (hi / 16 + 1) (by omega) ?_ ?_
    · intro n
      refine And.intro qp_n16 (br_t ?_ ?_)
      · rw [qp_d16 (by omega)]; exact nI_lt (by omega) (by omega)
      · rw [qp_s_skip (a := 16 * (hi / 16 + 1)) (b := 256) (by omega) (fun k h1 h2 => qp_g_out (by unfold qp_ins; omega))] at h
        exact h
    · intro n x h1 h2 W
      refine And.intro qp_n16 (br_f ?_ (And.intro qp_n16 (nm_r (qp_r16 (by omega)) ?_)))
      · rw [qp_d16 (by omega)]; exact nI_nlt (by omega) (by omega)
      · have e1 : qp_s (qp_g f p lo hi) (16 * x + lo % 16) = qp_s (qp_g f p lo hi) (16 * x) := qp_s_skip (by omega) (fun k h1 h2 => qp_g_out (by unfold qp_ins; omega))
        have e2 : qp_s (qp_g f p lo hi) (16 * (x + 1)) = qp_s (qp_g f p lo hi) (16 * x + (hi % 16 + 1)) := qp_s_skip (by omega) (fun k h1 h2 => qp_g_out (by unfold qp_ins; omega))
        rw [← e1]
        refine qp_c24 hp hl hh h1 (by omega) hr ?_
        rw [← e2]; exact W
  have e0 : qp_s (qp_g f p lo hi) (16 * (lo / 16)) = 0 := by
    rw [qp_s_skip (a := 0) (b := 16 * (lo / 16)) (by omega) (fun k h1 h2 => qp_g_out (by unfold qp_ins; omega))]; rfl
  rw [e0] at key
  exact key
/-- the number of set points -/
def qp_n (f : Nat → Int32) (p : Nat) : Nat := qp_s (fun k => qp_w (f (256 * p + k))) 256
theorem qp_cxa {post : Int32 → Prop} {f d l : Nat → Int32} {p : Nat} (hp : p < 3) (h : post (nI (qp_n f p))) : wpX_countIn post (f, d, l) (nI p) 0 255 := by
  refine qp_cx (lo := 0) (hi := 255) hp (by decide) (by decide) (by decide) (by decide) ?_
  rw [qp_s_congr (h := fun k => qp_w (f (256 * p + k))) 256 (fun k hk => qp_g_in (by unfold qp_ins; omega))]
  exact h
theorem qp_cy {post : Int32 → Prop} {f d l : Nat → Int32} {p : Nat} (hp : p < 3) (h : post (nI (qp_n f p))) : wpY_count post (f, d, l) (nI p) := by
  refine qp_le (fun n i => wY_count_4 post (nI p) f d l n (nI (qp_s (fun k => qp_w (f (256 * p + k))) i)) (nI i)) 0 256 (by omega) ?_ ?_
  · intro n
    exact br_t (nI_le (a := 256) (by omega) (by decide)) h
  · intro n i h1 h2 W
    refine br_f (nI_ge (b := 256) h2 (by decide)) (And.intro ?_ ?_)
    · rw [qp_i1]; exact vp_in_nI (by omega) (by decide)
    · rw [qp_i1, nI_clamp (by omega)]
      rw [qp_s1] at W
      refine br_c (fun z => nm_r (nI_1 i) ?_) (fun z => nm_r (nI_1 _) (nm_r (nI_1 i) ?_))
      · rw [qp_w0 z] at W; exact W
      · rw [qp_w1 z] at W; exact W
theorem qp_cyi {post : Int32 → Prop} {f d l : Nat → Int32} {p lo hi : Nat} (hp : p < 3) (hl : lo < 256) (hh : hi < 256) (h : post (nI (qp_s (qp_g f p lo hi) 256))) : ∃ n, wY_areaIn_28 post (nI p) (nI lo) (nI hi) f d l n 0 0 := by
  refine qp_le (fun n i => wY_areaIn_28 post (nI p) (nI lo) (nI hi) f d l n (nI (qp_s (qp_g f p lo hi) i)) (nI i)) 0 256 (by omega) ?_ ?_
  · intro n
    exact br_t (nI_le (a := 256) (by omega) (by decide)) h
  · intro n i h1 h2 W
    refine br_f (nI_ge (b := 256) h2 (by decide)) (qp_insy h2 hl hh ?_ ?_)
    · intro hi
      refine br_f qp_10 (And.intro ?_ ?_)
      · rw [qp_i1]; exact vp_in_nI (by omega) (by decide)
      · rw [qp_i1, nI_clamp (by omega)]
        rw [qp_s1, qp_g_in hi] at W
        refine br_c (fun z => nm_r (nI_1 i) ?_) (fun z => nm_r (nI_1 _) (nm_r (nI_1 i) ?_))
        · rw [qp_w0 z] at W; exact W
        · rw [qp_w1 z] at W; exact W
    · intro hi
      refine br_t rfl (nm_r (nI_1 i) ?_)
      rw [qp_s1, qp_g_out hi] at W
      exact W
end
section
/-! pictures written anew: copy, takeDraft, hold, join, paint -/
def qp_r (p j : Nat) : Nat := if 256 * p ≤ j ∧ j < 256 * p + 256 then j - 256 * p else 256
theorem qp_rk {p k : Nat} (hk : k < 256) (j : Nat) : qp_r p j = k ↔ j = 256 * p + k := by
  unfold qp_r; split <;> omega
def qp_P (p : Nat) (f T : Nat → Int32) (k : Nat) : Nat → Int32 := qp_a f (fun j => T (j - 256 * p)) (qp_r p) k
theorem qp_P_0 (p : Nat) (f T : Nat → Int32) : qp_P p f T 0 = f := rfl
theorem qp_P_st {p : Nat} {f T : Nat → Int32} {k : Nat} {v : Int32} (hk : k < 256) (hv : v = T k) : upd (qp_P p f T k) (256 * p + k) v = qp_P p f T (k + 1) :=
  qp_a_st (qp_rk hk) (by rw [Nat.add_sub_cancel_left]; exact hv)
theorem qp_P_rd {p q : Nat} {f T : Nat → Int32} {k : Nat} (hk : k < 256) : qp_P p f T k (256 * q + k) = f (256 * q + k) :=
  qp_a_rd (by unfold qp_r; split <;> omega)
theorem qp_P_in {p : Nat} {f T : Nat → Int32} {k : Nat} (hk : k < 256) : qp_P p f T 256 (256 * p + k) = T k := by
  unfold qp_P
  rw [qp_a_wr (by unfold qp_r; split <;> omega), Nat.add_sub_cancel_left]
theorem qp_P_ext {p : Nat} {f T a : Nat → Int32} (h1 : ∀ k, k < 256 → a (256 * p + k) = T k) (h2 : ∀ j, ¬ (256 * p ≤ j ∧ j < 256 * p + 256) → a j = f j) : a = qp_P p f T 256 := by
  funext j
  by_cases h : 256 * p ≤ j ∧ j < 256 * p + 256
  · obtain ⟨k, hk, rfl⟩ : ∃ k, k < 256 ∧ j = 256 * p + k := ⟨j - 256 * p, by omega, by omega⟩
    rw [h1 k hk, qp_P_in hk]
  · rw [h2 j h]
    unfold qp_P
    rw [qp_a_rd]
    unfold qp_r
    rw [if_neg h]; omega
theorem qp_P_out {p : Nat} {f T : Nat → Int32} {j : Nat} (h : ¬ (256 * p ≤ j ∧ j < 256 * p + 256)) : qp_P p f T 256 j = f j := by
  unfold qp_P
  rw [qp_a_rd]
  unfold qp_r
  rw [if_neg h]; omega
theorem qp_P_eq {p : Nat} {f T T' : Nat → Int32} (h : ∀ k, k < 256 → T k = T' k) : qp_P p f T 256 = qp_P p f T' 256 :=
  qp_P_ext (fun k hk => by rw [qp_P_in hk, h k hk]) (fun j hj => qp_P_out hj)
theorem qp_P_B {p : Nat} {f T : Nat → Int32} (hf : qp_B f) (hT : ∀ k, k < 256 → T k = 0 ∨ T k = 1) : qp_B (qp_P p f T 256) := by
  intro j
  by_cases h : 256 * p ≤ j ∧ j < 256 * p + 256
  · obtain ⟨k, hk, rfl⟩ : ∃ k, k < 256 ∧ j = 256 * p + k := ⟨j - 256 * p, by omega, by omega⟩
    rw [qp_P_in hk]; exact hT k hk
  · rw [qp_P_out h]; exact hf j
theorem qp_v1 {p k : Nat} (hp : p < 3) (hk : k < 256) : vp_in (256 * nI p + nI k) 768 := by
  rw [qp_i1]; exact vp_in_nI (by omega) (by decide)
theorem qp_e1 {p k : Nat} (hp : p < 3) (hk : k < 256) : (256 * nI p + nI k).toNatClampNeg = 256 * p + k := by
  rw [qp_i1, nI_clamp (by omega)]
theorem qp_v2 {p x y : Nat} (hp : p < 3) (hx : x < 16) (hy : y < 16) : vp_in (256 * nI p + 16 * nI x + nI y) 768 := by
  rw [qp_i2]; exact vp_in_nI (by omega) (by decide)
theorem qp_e2 {p x y : Nat} (hp : p < 3) (hx : x < 16) (hy : y < 16) : (256 * nI p + 16 * nI x + nI y).toNatClampNeg = 256 * p + (16 * x + y) := by
  rw [qp_i2, nI_clamp (by omega)]; omega
theorem qp_v3 {x y : Nat} (hx : x < 16) (hy : y < 16) : vp_in (16 * nI x + nI y) 256 := by
  rw [qp_i3]; exact vp_in_nI (by omega) (by decide)
theorem qp_e3 {x y : Nat} (hx : x < 16) (hy : y < 16) : (16 * nI x + nI y).toNatClampNeg = 16 * x + y := by
  rw [qp_i3, nI_clamp (by omega)]
theorem qp_e0 {k : Nat} (hk : k < 256) : (nI k).toNatClampNeg = k := nI_clamp (by omega)
theorem qp_ge256 : (256 : Int32) ≤ nI 256 := nI_le (a := 256) (by omega) (by decide)
theorem qp_nge {k : Nat} (h : k < 256) : ¬ (256 : Int32) ≤ nI k := nI_ge (b := 256) h (by decide)
theorem qp_ge16 : (16 : Int32) ≤ nI 16 := nI_le (a := 16) (by omega) (by decide)
theorem qp_nge16 {k : Nat} (h : k < 16) : ¬ (16 : Int32) ≤ nI k := nI_ge (b := 16) h (by decide)
/-- copy -/
theorem qp_copyx {post : Int32 → SX → Prop} {f d l : Nat → Int32} {p q : Nat} (hp : p < 3) (hq : q < 3) (hf : qp_B f) (h : post 0 (qp_P p f (fun k => f (256 * q + k)) 256, d, l)) : ∃ n, wX_copy_18 post (nI p) (nI q) n 0 f d l := by
  refine qp_le (fun n i => wX_copy_18 post (nI p) (nI q) n (nI i) (qp_P p f (fun k => f (256 * q + k)) i) d l) 0 256 (by omega) ?_ ?_
  · intro n; exact br_t qp_ge256 h
  · intro n i h1 h2 W
    refine br_f (qp_nge h2) (And.intro (qp_v1 hq h2) (And.intro (qp_v1 hp h2) ?_))
    rw [qp_e1 hp h2, qp_e1 hq h2, qp_P_rd h2]
    exact nm_r (qp_P_st h2 (qp_nb (hf _))) (nm_r (nI_1 i) W)
theorem qp_tx {post : SX → Prop} {f d l : Nat → Int32} {p : Nat} (hp : p < 3) (hd : ∀ k, k < 256 → d k = 0 ∨ d k = 1) (h : post (qp_P p f d 256, d, l)) : wpX_takeDraft post (f, d, l) (nI p) := by
  refine qp_le (fun n i => wX_takeDraft_2 post (nI p) n (nI i) (qp_P p f d i) d l) 0 256 (by omega) ?_ ?_
  · intro n; exact br_t qp_ge256 h
  · intro n i h1 h2 W
    refine br_f (qp_nge h2) (And.intro (vp_in_nI h2 (by decide)) (And.intro (qp_v1 hp h2) ?_))
    rw [qp_e1 hp h2, qp_e0 h2]
    exact nm_r (qp_P_st h2 (qp_nb (hd i h2))) (nm_r (nI_1 i) W)
def qp_H (p : Nat) (f h : Nat → Int32) (k : Nat) : Nat → Int32 := qp_a h (fun m => f (256 * p + m)) (fun m => m) k
theorem qp_H_in {p : Nat} {f h : Nat → Int32} {k : Nat} (hk : k < 256) : qp_H p f h 256 k = f (256 * p + k) := qp_a_wr hk
theorem qp_hy {post : SY → Prop} {f h s : Nat → Int32} {p : Nat} (hp : p < 3) (hf : qp_B f) (H : post (f, qp_H p f h 256, s)) : wpY_hold post (f, h, s) (nI p) := by
  refine qp_le (fun n i => wY_hold_2 post (nI p) n (nI i) f (qp_H p f h i) s) 0 256 (by omega) ?_ ?_
  · intro n; exact br_t qp_ge256 H
  · intro n i h1 h2 W
    refine br_f (qp_nge h2) (And.intro (qp_v1 hp h2) (And.intro (vp_in_nI h2 (by decide)) ?_))
    rw [qp_e1 hp h2, qp_e0 h2]
    exact nm_r (qp_a_st (fun j => Iff.rfl) (qp_nb (hf _))) (nm_r (nI_1 i) W)
theorem qp_copyy {post : Int32 → SY → Prop} {f h s : Nat → Int32} {p : Nat} (hp : p < 3) (hh : ∀ k, k < 256 → h k = 0 ∨ h k = 1) (H : post 0 (qp_P p f h 256, h, s)) : ∃ n, wY_copy_25 post (nI p) n 0 f h s := by
  refine qp_le (fun n i => wY_copy_25 post (nI p) n (nI i) (qp_P p f h i) h s) 0 256 (by omega) ?_ ?_
  · intro n; exact br_t qp_ge256 H
  · intro n i h1 h2 W
    refine br_f (qp_nge h2) (And.intro (vp_in_nI h2 (by decide)) (And.intro (qp_v1 hp h2) ?_))
    rw [qp_e1 hp h2, qp_e0 h2]
    exact nm_r (qp_P_st h2 (qp_nb (hh i h2))) (nm_r (nI_1 i) W)
/-- join -/
def qp_jn (kd : Nat) (a b : Int32) : Int32 :=
  if kd = 0 then (if a = 0 then 0 else if b = 0 then 0 else 1)
  else if kd = 1 then (if a = 0 then (if b = 0 then 0 else 1) else 1)
  else if kd = 2 then (if a = b then 0 else 1)
  else (if a = 0 then 0 else if b = 0 then 1 else 0)
theorem qp_jn_B (kd : Nat) (a b : Int32) : qp_jn kd a b = 0 ∨ qp_jn kd a b = 1 := by
  unfold qp_jn
  repeat' split
  all_goals simp
theorem qp_jx {kd : Nat} (h : kd < 4) {post : Int32 → Prop} {a b : Int32} (hp : post (qp_jn kd a b)) : wpX_isJoined post (nI kd) a b := by
  have hk : kd = 0 ∨ kd = 1 ∨ kd = 2 ∨ kd = 3 := by omega
  rcases hk with rfl | rfl | rfl | rfl
  · exact br_f (by decide) (br_f (by decide) (br_t (by decide) (br_c (fun za => by simpa [qp_jn, za] using hp) (fun za => br_c (fun zb => by simpa [qp_jn, za, zb] using hp) (fun zb => by simpa [qp_jn, za, zb] using hp)))))
  · exact br_f (by decide) (br_f (by decide) (br_f (by decide) (br_t (by decide) (br_c (fun za => br_c (fun zb => by simpa [qp_jn, za, zb] using hp) (fun zb => by simpa [qp_jn, za, zb] using hp)) (fun za => by simpa [qp_jn, za] using hp)))))
  · exact br_f (by decide) (br_f (by decide) (br_f (by decide) (br_f (by decide) (br_t (by decide) (br_c (fun za => by simpa [qp_jn, za] using hp) (fun za => by simpa [qp_jn, za] using hp))))))
  · exact br_f (by decide) (br_t (by decide) (br_c (fun za => by simpa [qp_jn, za] using hp) (fun za => br_c (fun zb => by simpa [qp_jn, za, zb] using hp) (fun zb => by simpa [qp_jn, za, zb] using hp))))
theorem qp_joinx {post : Int32 → SX → Prop} {f d l : Nat → Int32} {kd p q : Nat} (hk : kd < 4) (hp : p < 3) (hq : q < 3) (hf : qp_B f) (h : post (nI (qp_n (qp_P p f (fun k => qp_jn kd (f (256 * p + k)) (f (256 * q + k))) 256) p)) (qp_P p f (fun k => qp_jn kd (f (256 * p + k)) (f (256 * q + k))) 256, d, l)) : ∃ n, wX_join_31 post (nI kd) (nI p) (nI q) n 0 f d l := by
  refine qp_le (fun n i => wX_join_31 post (nI kd) (nI p) (nI q) n (nI i) (qp_P p f (fun k => qp_jn kd (f (256 * p + k)) (f (256 * q + k))) i) d l) 0 256 (by omega) ?_ ?_
  · intro n; exact br_t qp_ge256 (qp_cxa hp h)
  · intro n i h1 h2 W
    refine br_f (qp_nge h2) (And.intro (qp_v1 hp h2) ?_)
    rw [qp_e1 hp h2, qp_e1 hq h2, qp_P_rd h2, qp_P_rd h2]
    refine nm_e (And.intro (qp_v1 hq h2) (nm_e (qp_jx hk (And.intro (qp_v1 hp h2) ?_))))
    exact nm_r (qp_P_st h2 (qp_nb (qp_jn_B _ _ _))) (nm_r (nI_1 i) W)
theorem qp_joiny {post : Int32 → SY → Prop} {f h s T : Nat → Int32} {kd p : Nat} (hk : kd < 4) (hp : p < 3) (hT : ∀ k, k < 256 → T k = qp_jn kd (f (256 * p + k)) (h k)) (H : post (nI (qp_n (qp_P p f T 256) p)) (qp_P p f T 256, h, s)) : ∃ n, wY_join_38 post (nI kd) (nI p) n 0 f h s := by
  refine qp_le (fun n i => wY_join_38 post (nI kd) (nI p) n (nI i) (qp_P p f T i) h s) 0 256 (by omega) ?_ ?_
  · intro n; exact br_t qp_ge256 (qp_cy hp H)
  · intro n i h1 h2 W
    have L : ∀ c : Int32, T i = c → vp_in (256 * nI p + nI i) 768 ∧ ∀ a', a' = upd (qp_P p f T i) (256 * nI p + nI i).toNatClampNeg (vp_nar .boolean c) → ∀ x, x = nI i + 1 → wY_join_38 post (nI kd) (nI p) n x a' h s := by
      intro c hc
      refine And.intro (qp_v1 hp h2) ?_
      rw [qp_e1 hp h2]
      have hb : c = 0 ∨ c = 1 := by rw [← hc, hT i h2]; exact qp_jn_B _ _ _
      exact nm_r (qp_P_st h2 (by rw [qp_nb hb, hc])) (nm_r (nI_1 i) W)
    refine br_f (qp_nge h2) (And.intro (qp_v1 hp h2) (nm_r (e' := f (256 * p + i)) (by rw [qp_e1 hp h2, qp_P_rd h2]) (And.intro (vp_in_nI h2 (by decide)) (nm_r (e' := h i) (by rw [qp_e0 h2]) ?_))))
    have hT := hT i h2
    have hk : kd = 0 ∨ kd = 1 ∨ kd = 2 ∨ kd = 3 := by omega
    rcases hk with rfl | rfl | rfl | rfl
    · exact br_t (by decide) (br_c (fun za => L _ (by simp [hT, qp_jn, za])) (fun za => br_c (fun zb => L _ (by simp [hT, qp_jn, za, zb])) (fun zb => L _ (by simp [hT, qp_jn, za, zb]))))
    · exact br_f (by decide) (br_t (by decide) (br_c (fun za => br_c (fun zb => L _ (by simp [hT, qp_jn, za, zb])) (fun zb => L _ (by simp [hT, qp_jn, za, zb]))) (fun za => L _ (by simp [hT, qp_jn, za]))))
    · exact br_f (by decide) (br_f (by decide) (br_t (by decide) (br_c (fun za => L _ (by simp [hT, qp_jn, za])) (fun za => L _ (by simp [hT, qp_jn, za])))))
    · exact br_f (by decide) (br_f (by decide) (br_f (by decide) (br_c (fun za => L _ (by simp [hT, qp_jn, za])) (fun za => br_c (fun zb => L _ (by simp [hT, qp_jn, za, zb])) (fun zb => L _ (by simp [hT, qp_jn, za, zb]))))))
/-- paint -/
def qp_m (mo : Nat) (v : Int32) : Int32 := if mo = 2 then (if v = 0 then 1 else 0) else if mo = 1 then 1 else 0
theorem qp_m_B (mo : Nat) (v : Int32) : qp_m mo v = 0 ∨ qp_m mo v = 1 := by
  unfold qp_m
  repeat' split
  all_goals simp
def qp_rf (p lo hi j : Nat) : Nat := if (256 * p ≤ j ∧ j < 256 * p + 256) ∧ lo / 16 ≤ (j - 256 * p) / 16 ∧ (j - 256 * p) / 16 ≤ hi / 16 ∧ lo % 16 ≤ (j - 256 * p) % 16 ∧ (j - 256 * p) % 16 ≤ hi % 16 then j - 256 * p else 256
theorem qp_rfk {p lo hi k : Nat} (hk : k < 256) (hi' : qp_ins lo hi k) (j : Nat) : qp_rf p lo hi j = k ↔ j = 256 * p + k := by
  unfold qp_ins at hi'
  constructor
  · intro h
    unfold qp_rf at h
    split at h <;> omega
  · rintro rfl
    unfold qp_rf
    rw [Nat.add_sub_cancel_left]
    exact if_pos ⟨by omega, hi'⟩
theorem qp_rf_out {p lo hi a b : Nat} (hb : b ≤ 256) (h : ∀ k, a ≤ k → k < b → ¬ qp_ins lo hi k) (j : Nat) : qp_rf p lo hi j < a ∨ b ≤ qp_rf p lo hi j := by
  unfold qp_rf
  split
  · rename_i h1
    by_cases h2 : j - 256 * p < a
    · exact Or.inl h2
    · by_cases h3 : j - 256 * p < b
      · exact absurd h1.2 (h _ (by omega) h3)
      · exact Or.inr (by omega)
  · exact Or.inr hb
def qp_F (p lo hi mo : Nat) (f : Nat → Int32) (k : Nat) : Nat → Int32 := qp_a f (fun j => qp_m mo (f j)) (qp_rf p lo hi) k
theorem qp_F_st {p lo hi mo : Nat} {f : Nat → Int32} {k : Nat} (hk : k < 256) (hi' : qp_ins lo hi k) : upd (qp_F p lo hi mo f k) (256 * p + k) (qp_m mo (f (256 * p + k))) = qp_F p lo hi mo f (k + 1) := qp_a_st (qp_rfk hk hi') rfl
theorem qp_F_rd {p lo hi mo : Nat} {f : Nat → Int32} {k : Nat} (hk : k < 256) : qp_F p lo hi mo f k (256 * p + k) = f (256 * p + k) :=
  qp_a_rd (by unfold qp_rf; split <;> omega)
theorem qp_F_sk {p lo hi mo : Nat} {f : Nat → Int32} {a b : Nat} (hab : a ≤ b) (hb : b ≤ 256) (h : ∀ k, a ≤ k → k < b → ¬ qp_ins lo hi k) : qp_F p lo hi mo f b = qp_F p lo hi mo f a := qp_a_skip hab (qp_rf_out hb h)
theorem qp_F_B {p lo hi mo : Nat} {f : Nat → Int32} (hf : qp_B f) (k : Nat) : qp_B (qp_F p lo hi mo f k) := by
  intro j
  unfold qp_F qp_a
  split
  · exact qp_m_B _ _
  · exact hf j
theorem qp_p55 {post : Int32 → SX → Prop} {J : Int32 → (Nat → Int32) → (Nat → Int32) → (Nat → Int32) → Prop} {f d l : Nat → Int32} {p lo hi mo x : Nat} (hp : p < 3) (hl : lo < 256) (hh : hi < 256) (hm : mo < 3) (hx1 : lo / 16 ≤ x) (hx2 : x ≤ hi / 16) (hr : lo % 16 ≤ hi % 16) (h : J (nI (x + 1)) (qp_F p lo hi mo f (16 * x + (hi % 16 + 1))) d l) :
    ∃ n, wX_paint_55 post J (nI p) (nI lo) (nI hi) (nI mo) (nI x) n (nI (lo % 16)) (qp_F p lo hi mo f (16 * x + lo % 16)) d l := by
  refine qp_le (fun n y => wX_paint_55 post J (nI p) (nI lo) (nI hi) (nI mo) (nI x) n (nI y) (qp_F p lo hi mo f (16 * x + y)) d l) (lo % 16) (hi % 16 + 1) (by omega) ?_ ?_
  · intro n
    refine And.intro qp_n16 (br_t ?_ (nm_r (nI_1 x) h))
    rw [qp_r16 (by omega)]
    exact nI_lt (by omega) (by omega)
  · intro n y h1 h2 W
    have hb : ¬ (nI hi - nI hi / 16 * 16) < nI y := by
      rw [qp_r16 (by omega)]
      exact nI_nlt (by omega) (by omega)
    have hi' : qp_ins lo hi (16 * x + y) := by unfold qp_ins; omega
    have hk : 16 * x + y < 256 := by omega
    have hv : vp_in (nI (256 * p + (16 * x + y))) 768 := vp_in_nI (by omega) (by decide)
    have ec : (nI (256 * p + (16 * x + y))).toNatClampNeg = 256 * p + (16 * x + y) := nI_clamp (by omega)
    have L : ∀ c : Int32, qp_m mo (f (256 * p + (16 * x + y))) = c → vp_in (nI (256 * p + (16 * x + y))) 768 ∧ ∀ a', a' = upd (qp_F p lo hi mo f (16 * x + y)) (nI (256 * p + (16 * x + y))).toNatClampNeg (vp_nar .boolean c) → ∀ z, z = nI y + 1 → wX_paint_55 post J (nI p) (nI lo) (nI hi) (nI mo) (nI x) n z a' d l := by
      intro c hc
      refine And.intro hv ?_
      rw [ec, ← hc, qp_nb (qp_m_B _ _)]
      exact nm_r (qp_F_st hk hi') (nm_r (nI_1 y) W)
    refine And.intro qp_n16 (br_f hb (nm_r (e' := nI (256 * p + (16 * x + y))) (by rw [qp_i2, Nat.add_assoc]) ?_))
    have er : qp_F p lo hi mo f (16 * x + y) (nI (256 * p + (16 * x + y))).toNatClampNeg = f (256 * p + (16 * x + y)) := by rw [ec, qp_F_rd hk]
    have hm' : mo = 0 ∨ mo = 1 ∨ mo = 2 := by omega
    rcases hm' with rfl | rfl | rfl
    · exact br_f (by decide) (br_f (by decide) (L _ (by simp [qp_m])))
    · exact br_f (by decide) (br_t (by decide) (L _ (by simp [qp_m])))
    · refine br_t (by decide) (And.intro hv (br_c (fun z => L _ ?_) (fun z => L _ ?_)))
      · rw [er] at z; simp [qp_m, z]
      · rw [er] at z; simp [qp_m, z]
theorem qp_paintx {post : Int32 → SX → Prop} {f d l : Nat → Int32} {p lo hi mo : Nat} (hp : p < 3) (hl : lo < 256) (hh : hi < 256) (hm : mo < 3) (hq : lo / 16 ≤ hi / 16) (hr : lo % 16 ≤ hi % 16) (h : post (nI (qp_n (qp_F p lo hi mo f 256) p)) (qp_F p lo hi mo f 256, d, l)) :
    ∃ n, wX_paint_40 post (nI p) (nI lo) (nI hi) (nI mo) n (nI (lo / 16)) f d l := by
  have key : ∃ n, wX_paint_40 post (nI p) (nI lo) (nI hi) (nI mo) n (nI (lo / 16)) (qp_F p lo hi mo f (16 * (lo / 16))) d l := by
    refine qp_le (fun n x => wX_paint_40 post (nI p) (nI lo) (nI hi) (nI mo) n (nI x) (qp_F p lo hi mo f (16 * x)) d l) (lo / 16) (hi / 16 + 1) (by omega) ?_ ?_
    · intro n
      refine And.intro qp_n16 (br_t ?_ ?_)
      · rw [qp_d16 (by omega)]; exact nI_lt (by omega) (by omega)
      · rw [qp_F_sk (a := 16 * (hi / 16 + 1)) (b := 256) (by omega) (by omega) (fun k h1 h2 => by unfold qp_ins; omega)] at h
        exact qp_cxa hp h
    · intro n x h1 h2 W
      refine And.intro qp_n16 (br_f ?_ (And.intro qp_n16 (nm_r (qp_r16 (by omega)) ?_)))
      · rw [qp_d16 (by omega)]; exact nI_nlt (by omega) (by omega)
      · have e1 : qp_F p lo hi mo f (16 * x + lo % 16) = qp_F p lo hi mo f (16 * x) := qp_F_sk (by omega) (by omega) (fun k h1 h2 => by unfold qp_ins; omega)
        have e2 : qp_F p lo hi mo f (16 * (x + 1)) = qp_F p lo hi mo f (16 * x + (hi % 16 + 1)) := qp_F_sk (by omega) (by omega) (fun k h1 h2 => by unfold qp_ins; omega)
        rw [← e1]
        refine qp_p55 hp hl hh hm h1 (by omega) hr ?_
        rw [← e2]; exact W
  have e0 : qp_F p lo hi mo f (16 * (lo / 16)) = f := by
    rw [qp_F_sk (a := 0) (b := 16 * (lo / 16)) (by omega) (by omega) (fun k h1 h2 => by unfold qp_ins; omega)]; exact qp_a_0 _ _ _
  rw [e0] at key
  exact key
theorem qp_painty {post : Int32 → SY → Prop} {f h s : Nat → Int32} {p lo hi mo : Nat} (hp : p < 3) (hl : lo < 256) (hh : hi < 256) (hm : mo < 3) (H : post (nI (qp_n (qp_F p lo hi mo f 256) p)) (qp_F p lo hi mo f 256, h, s)) :
    ∃ n, wY_paint_39 post (nI p) (nI lo) (nI hi) (nI mo) n 0 f h s := by
  refine qp_le (fun n k => wY_paint_39 post (nI p) (nI lo) (nI hi) (nI mo) n (nI k) (qp_F p lo hi mo f k) h s) 0 256 (by omega) ?_ ?_
  · intro n; exact br_t qp_ge256 (qp_cy hp H)
  · intro n k h1 h2 W
    refine br_f (qp_nge h2) (qp_insy h2 hl hh ?_ ?_)
    · intro hi'
      have L : ∀ c : Int32, qp_m mo (f (256 * p + k)) = c → vp_in (256 * nI p + nI k) 768 ∧ ∀ a', a' = upd (qp_F p lo hi mo f k) (256 * nI p + nI k).toNatClampNeg (vp_nar .boolean c) → ∀ z, z = nI k + 1 → wY_paint_39 post (nI p) (nI lo) (nI hi) (nI mo) n z a' h s := by
        intro c hc
        refine And.intro (qp_v1 hp h2) ?_
        rw [qp_e1 hp h2, ← hc, qp_nb (qp_m_B _ _)]
        exact nm_r (qp_F_st h2 hi') (nm_r (nI_1 k) W)
      have er : qp_F p lo hi mo f k (256 * nI p + nI k).toNatClampNeg = f (256 * p + k) := by rw [qp_e1 hp h2, qp_F_rd h2]
      have hm' : mo = 0 ∨ mo = 1 ∨ mo = 2 := by omega
      rcases hm' with rfl | rfl | rfl
      · exact br_f qp_10 (br_f (by decide) (br_f (by decide) (L _ (by simp [qp_m]))))
      · exact br_f qp_10 (br_f (by decide) (br_t (by decide) (L _ (by simp [qp_m]))))
      · refine br_f qp_10 (br_t (by decide) (And.intro (qp_v1 hp h2) (br_c (fun z => L _ ?_) (fun z => L _ ?_))))
        · rw [er] at z; simp [qp_m, z]
        · rw [er] at z; simp [qp_m, z]
    · intro hi'
      refine br_t rfl (nm_r (nI_1 k) ?_)
      rw [qp_F_sk (a := k) (b := k + 1) (by omega) (by omega) (fun k' h3 h4 => by have e : k' = k := by omega
                                                                                  rw [e]; exact hi')] at W
      exact W
end
section
/-! turn, shift, zoom: drawn on a draft, or out of a held picture -/
theorem qp_isx {post : Int32 → Prop} {f d l : Nat → Int32} {p x y : Nat} (hf : qp_B f) (hp : p < 3) (hx : x < 16) (hy : y < 16) (h : post (f (256 * p + (16 * x + y)))) : wpX_isSet post (f, d, l) (nI p) (nI x) (nI y) := by
  refine And.intro (qp_v2 hp hx hy) ?_
  rw [qp_e2 hp hx hy]
  exact And.intro (qp_nn (hf _)) h
/-- where a turn brings a point, and where it came from -/
def qp_t (kd k : Nat) : Nat := if kd = 0 then 16 * (k % 16) + (15 - k / 16) else if kd = 1 then 16 * (15 - k / 16) + k % 16 else 16 * (k % 16) + k / 16
def qp_ti (kd m : Nat) : Nat := if kd = 0 then 16 * (15 - m % 16) + m / 16 else if kd = 1 then 16 * (15 - m / 16) + m % 16 else 16 * (m % 16) + m / 16
theorem qp_tk {kd k m : Nat} (hk : k < 256) (hm : m < 256) : qp_ti kd m = k ↔ m = qp_t kd k := by
  unfold qp_ti qp_t
  split
  · omega
  · split <;> omega
theorem qp_ti_lt {kd m : Nat} (hm : m < 256) : qp_ti kd m < 256 := by
  unfold qp_ti
  split
  · omega
  · split <;> omega
theorem qp_t_lt {kd m : Nat} (hm : m < 256) : qp_t kd m < 256 := by
  unfold qp_t
  split
  · omega
  · split <;> omega
def qp_tr (kd m : Nat) : Nat := if m < 256 then qp_ti kd m else 256
theorem qp_trk {kd k : Nat} (hk : k < 256) (m : Nat) : qp_tr kd m = k ↔ m = qp_t kd k := by
  unfold qp_tr
  have := qp_t_lt (kd := kd) hk
  by_cases h : m < 256
  · rw [if_pos h]; exact qp_tk hk h
  · rw [if_neg h]; omega
def qp_D (kd p : Nat) (f d : Nat → Int32) (k : Nat) : Nat → Int32 := qp_a d (fun m => f (256 * p + qp_ti kd m)) (qp_tr kd) k
theorem qp_D_st {kd p : Nat} {f d : Nat → Int32} {k : Nat} (hk : k < 256) : upd (qp_D kd p f d k) (qp_t kd k) (f (256 * p + k)) = qp_D kd p f d (k + 1) :=
  qp_a_st (qp_trk hk) (by rw [(qp_tk hk (qp_t_lt hk)).mpr rfl])
theorem qp_D_in {kd p : Nat} {f d : Nat → Int32} {m : Nat} (hm : m < 256) : qp_D kd p f d 256 m = f (256 * p + qp_ti kd m) :=
  qp_a_wr (by unfold qp_tr; rw [if_pos hm]; exact qp_ti_lt hm)
theorem qp_15 {x : Nat} (hx : x < 16) : (15 : Int32) - nI x = nI (15 - x) := pk_sub (a := 15) (by omega)
theorem qp_tu32 {post : Int32 → SX → Prop} {J : Int32 → (Nat → Int32) → (Nat → Int32) → (Nat → Int32) → Prop} {f d l : Nat → Int32} {kd p x : Nat} (hk : kd < 3) (hp : p < 3) (hx : x < 16) (hf : qp_B f) (h : J (nI (x + 1)) f (qp_D kd p f d (16 * (x + 1))) l) :
    ∃ n, wX_turn_32 post J (nI kd) (nI p) (nI x) n 0 f (qp_D kd p f d (16 * x)) l := by
  refine qp_le (fun n y => wX_turn_32 post J (nI kd) (nI p) (nI x) n (nI y) f (qp_D kd p f d (16 * x + y)) l) 0 16 (by omega) ?_ ?_
  · intro n
    exact br_t qp_ge16 (nm_r (nI_1 x) h)
  · intro n y h1 h2 W
    have hkk : 16 * x + y < 256 := by omega
    have L : ∀ z5 z0 : Int32, 16 * z5 + z0 = nI (qp_t kd (16 * x + y)) → wX_turn_77 post J (wX_turn_32 post J (nI kd) (nI p) (nI x) n) (nI kd) (nI p) (nI x) (nI y) z5 z0 f (qp_D kd p f d (16 * x + y)) l := by
      intro z5 z0 e
      unfold wX_turn_77
      refine qp_isx hf hp hx h2 (And.intro ?_ ?_)
      · rw [e]; exact vp_in_nI (qp_t_lt hkk) (by decide)
      · rw [e, qp_e0 (qp_t_lt hkk), qp_nb (hf _)]
        exact nm_r (qp_D_st hkk) (nm_r (nI_1 y) W)
    refine br_f (qp_nge16 h2) ?_
    have ex : (16 * x + y) / 16 = x := by omega
    have ey : (16 * x + y) % 16 = y := by omega
    have hk' : kd = 0 ∨ kd = 1 ∨ kd = 2 := by omega
    rcases hk' with rfl | rfl | rfl
    · refine br_f (by decide) ?_
      unfold wX_turn_53
      exact br_t (by decide) (L _ _ (by rw [qp_15 hx, qp_i3]; simp [qp_t, ex, ey]))
    · refine br_t (by decide) ?_
      unfold wX_turn_53
      exact br_f (by decide) (br_t (by decide) (L _ _ (by rw [qp_15 hx, qp_i3]; simp [qp_t, ex, ey])))
    · refine br_f (by decide) ?_
      unfold wX_turn_53
      exact br_f (by decide) (br_f (by decide) (L _ _ (by rw [qp_i3]; simp [qp_t, ex, ey])))
/-- the turned picture -/
def qp_T (kd p : Nat) (f : Nat → Int32) : Nat → Int32 := qp_P p f (fun m => f (256 * p + qp_ti kd m)) 256
theorem qp_T_B {kd p : Nat} {f : Nat → Int32} (hf : qp_B f) : qp_B (qp_T kd p f) := qp_P_B hf (fun k _ => hf _)
theorem qp_turnx {post : Int32 → SX → Prop} {f d l : Nat → Int32} {kd p : Nat} (hk : kd < 3) (hp : p < 3) (hf : qp_B f) (h : ∀ D, wpX_countTiles (fun r => post r (qp_T kd p f, D, l)) (qp_T kd p f, D, l) (nI p) 1 16) :
    ∃ n, wX_turn_23 post (nI kd) (nI p) n 0 f d l := by
  refine qp_le (fun n x => wX_turn_23 post (nI kd) (nI p) n (nI x) f (qp_D kd p f d (16 * x)) l) 0 16 (by omega) ?_ ?_
  · intro n
    refine br_t qp_ge16 (qp_tx hp ?_ ?_)
    · intro k hk
      rw [qp_D_in hk]; exact hf _
    · rw [qp_P_eq (T' := fun m => f (256 * p + qp_ti kd m)) (fun k hk => qp_D_in hk)]
      exact h _
  · intro n x h1 h2 W
    exact br_f (qp_nge16 h2) (qp_tu32 hk hp h2 hf W)
def qp_yr (kd p j : Nat) : Nat := if 256 * p ≤ j ∧ j < 256 * p + 256 then qp_ti kd (j - 256 * p) else 256
theorem qp_yrk {kd p k : Nat} (hk : k < 256) (j : Nat) : qp_yr kd p j = k ↔ j = 256 * p + qp_t kd k := by
  unfold qp_yr
  have := qp_t_lt (kd := kd) hk
  by_cases h : 256 * p ≤ j ∧ j < 256 * p + 256
  · rw [if_pos h, qp_tk hk (by omega)]; omega
  · rw [if_neg h]; omega
def qp_Y (kd p : Nat) (f h : Nat → Int32) (k : Nat) : Nat → Int32 := qp_a f (fun j => h (qp_ti kd (j - 256 * p))) (qp_yr kd p) k
theorem qp_Y_st {kd p : Nat} {f h : Nat → Int32} {k : Nat} (hk : k < 256) : upd (qp_Y kd p f h k) (256 * p + qp_t kd k) (h k) = qp_Y kd p f h (k + 1) :=
  qp_a_st (qp_yrk hk) (by rw [Nat.add_sub_cancel_left, (qp_tk hk (qp_t_lt hk)).mpr rfl])
theorem qp_Y_T {kd p : Nat} {f h : Nat → Int32} (hh : ∀ k, k < 256 → h k = f (256 * p + k)) : qp_Y kd p f h 256 = qp_T kd p f := by
  refine qp_P_ext ?_ ?_
  · intro k hk
    unfold qp_Y
    rw [qp_a_wr, Nat.add_sub_cancel_left, hh _ (qp_ti_lt hk)]
    unfold qp_yr
    rw [if_pos (by omega), Nat.add_sub_cancel_left]
    exact qp_ti_lt hk
  · intro j hj
    unfold qp_Y
    rw [qp_a_rd]
    unfold qp_yr
    rw [if_neg hj]; omega
theorem qp_turny {post : Int32 → SY → Prop} {f h s : Nat → Int32} {kd p : Nat} (hk : kd < 3) (hp : p < 3) (hf : qp_B f) (hh : ∀ k, k < 256 → h k = f (256 * p + k)) (H : wpY_tally (fun r => post r (qp_T kd p f, h, s)) (qp_T kd p f, h, s) (nI p) 0) :
    ∃ n, wY_turn_29 post (nI kd) (nI p) n 0 f h s := by
  refine qp_le (fun n k => wY_turn_29 post (nI kd) (nI p) n (nI k) (qp_Y kd p f h k) h s) 0 256 (by omega) ?_ ?_
  · intro n
    refine br_t qp_ge256 ?_
    rw [qp_Y_T hh]
    exact H
  · intro n k h1 h2 W
    have L : ∀ z0 : Int32, z0 = nI (qp_t kd k) → wY_turn_93 post (wY_turn_29 post (nI kd) (nI p) n) (nI kd) (nI p) (nI k) z0 (qp_Y kd p f h k) h s := by
      intro z0 e
      unfold wY_turn_93
      rw [e]
      refine And.intro (vp_in_nI h2 (by decide)) (And.intro (qp_v1 hp (qp_t_lt h2)) ?_)
      rw [qp_e1 hp (qp_t_lt h2), qp_e0 h2, qp_nb (by rw [hh k h2]; exact hf _)]
      exact nm_r (qp_Y_st h2) (nm_r (nI_1 k) W)
    refine br_f (qp_nge h2) (And.intro qp_n16 (nm_r (qp_d16 (by omega)) (And.intro qp_n16 (nm_r (qp_r16 (by omega)) ?_))))
    have e15 : k / 16 < 16 := by omega
    have hk' : kd = 0 ∨ kd = 1 ∨ kd = 2 := by omega
    rcases hk' with rfl | rfl | rfl
    · refine br_t (by decide) (L _ ?_)
      rw [show (15 : Int32) = nI 15 from rfl, qp_i3, pk_sub (by omega)]
      refine congrArg nI ?_
      unfold qp_t
      rw [if_pos rfl]; omega
    · refine br_f (by decide) (br_t (by decide) (L _ ?_))
      rw [qp_15 e15, qp_i3]; simp [qp_t]
    · refine br_f (by decide) (br_f (by decide) (L _ ?_))
      rw [qp_i3]; simp [qp_t]
/-- a draft drawn in order -/
def qp_I (d T : Nat → Int32) (k : Nat) : Nat → Int32 := qp_a d T (fun m => m) k
theorem qp_I_st {d T : Nat → Int32} {k : Nat} : upd (qp_I d T k) k (T k) = qp_I d T (k + 1) := qp_a_st (fun j => Iff.rfl) rfl
theorem qp_I_in {d T : Nat → Int32} {m : Nat} (hm : m < 256) : qp_I d T 256 m = T m := qp_a_wr hm
/-- shift -/
def qp_sh (f : Nat → Int32) (p : Nat) (dx dy : Int32) (k : Nat) : Int32 :=
  if nI (k / 16) - dx < 0 then 0 else if 16 ≤ nI (k / 16) - dx then 0 else if nI (k % 16) - dy < 0 then 0 else if 16 ≤ nI (k % 16) - dy then 0
  else f (256 * p + (16 * (nI (k / 16) - dx).toNatClampNeg + (nI (k % 16) - dy).toNatClampNeg))
theorem qp_sh_B {f : Nat → Int32} (hf : qp_B f) (p : Nat) (dx dy : Int32) (k : Nat) : qp_sh f p dx dy k = 0 ∨ qp_sh f p dx dy k = 1 := by
  unfold qp_sh
  split
  · exact Or.inl rfl
  split
  · exact Or.inl rfl
  split
  · exact Or.inl rfl
  split
  · exact Or.inl rfl
  · exact hf _
theorem qp_sh49 {post : Int32 → SX → Prop} {J : Int32 → (Nat → Int32) → (Nat → Int32) → (Nat → Int32) → Prop} {f d l : Nat → Int32} {p x : Nat} {dx dy : Int32} (hp : p < 3) (hx : x < 16) (hf : qp_B f) (h : J (nI (x + 1)) f (qp_I d (qp_sh f p dx dy) (16 * (x + 1))) l) :
    ∃ n, wX_shift_49 post J (nI p) dx dy (nI x) n 0 f (qp_I d (qp_sh f p dx dy) (16 * x)) l := by
  refine qp_le (fun n y => wX_shift_49 post J (nI p) dx dy (nI x) n (nI y) f (qp_I d (qp_sh f p dx dy) (16 * x + y)) l) 0 16 (by omega) ?_ ?_
  · intro n
    exact br_t qp_ge16 (nm_r (nI_1 x) h)
  · intro n y h1 h2 W
    have L : ∀ c : Int32, qp_sh f p dx dy (16 * x + y) = c → vp_in (16 * nI x + nI y) 256 ∧ ∀ a', a' = upd (qp_I d (qp_sh f p dx dy) (16 * x + y)) (16 * nI x + nI y).toNatClampNeg (vp_nar .boolean c) → ∀ z, z = nI y + 1 → wX_shift_49 post J (nI p) dx dy (nI x) n z f a' l := by
      intro c hc
      refine And.intro (qp_v3 hx h2) ?_
      rw [qp_e3 hx h2, ← hc, qp_nb (qp_sh_B hf _ _ _ _)]
      exact nm_r qp_I_st (nm_r (nI_1 y) W)
    have ex : (16 * x + y) / 16 = x := by omega
    have ey : (16 * x + y) % 16 = y := by omega
    unfold qp_sh at L
    rw [ex, ey] at L
    refine br_f (qp_nge16 h2) (nm_e (nm_e ?_))
    by_cases c1 : nI x - dx < 0
    · exact br_t c1 (br_t rfl (L 0 (if_pos c1)))
    by_cases c2 : 16 ≤ nI x - dx
    · exact br_f c1 (br_t c2 (br_t rfl (L 0 (by rw [if_neg c1, if_pos c2]))))
    by_cases c3 : nI y - dy < 0
    · exact br_f c1 (br_f c2 (br_t c3 (br_t rfl (L 0 (by rw [if_neg c1, if_neg c2, if_pos c3])))))
    by_cases c4 : 16 ≤ nI y - dy
    · exact br_f c1 (br_f c2 (br_f c3 (br_t c4 (br_t rfl (L 0 (by rw [if_neg c1, if_neg c2, if_neg c3, if_pos c4]))))))
    refine br_f c1 (br_f c2 (br_f c3 (br_f c4 (br_f qp_10 ?_))))
    obtain ⟨x', hx', e1⟩ := nI_of c1
    obtain ⟨y', hy', e2⟩ := nI_of c3
    rw [if_neg c1, if_neg c2, if_neg c3, if_neg c4, e1, e2, nI_clamp hx', nI_clamp hy'] at L
    rw [e1] at c2 ⊢
    rw [e2] at c4 ⊢
    have hx2 : x' < 16 := by
      have : ¬ nI 16 ≤ nI x' := c2
      rw [nI_leI (by decide) hx'] at this; omega
    have hy2 : y' < 16 := by
      have : ¬ nI 16 ≤ nI y' := c4
      rw [nI_leI (by decide) hy'] at this; omega
    refine qp_isx hf hp hx2 hy2 (br_c (fun z => L 0 z) (fun z => L 1 ?_))
    rcases hf (256 * p + (16 * x' + y')) with h0 | h0
    · exact absurd h0 z
    · exact h0
theorem qp_shiftx {post : Int32 → SX → Prop} {f d l : Nat → Int32} {p : Nat} {dx dy : Int32} (hp : p < 3) (hf : qp_B f) (h : ∀ D, post (nI (qp_n (qp_P p f (qp_sh f p dx dy) 256) p)) (qp_P p f (qp_sh f p dx dy) 256, D, l)) :
    ∃ n, wX_shift_39 post (nI p) dx dy n 0 f d l := by
  refine qp_le (fun n x => wX_shift_39 post (nI p) dx dy n (nI x) f (qp_I d (qp_sh f p dx dy) (16 * x)) l) 0 16 (by omega) ?_ ?_
  · intro n
    refine br_t qp_ge16 (qp_tx hp ?_ ?_)
    · intro k hk
      rw [qp_I_in hk]; exact qp_sh_B hf _ _ _ _
    · rw [qp_P_eq (T' := qp_sh f p dx dy) (fun k hk => qp_I_in hk)]
      exact qp_cxa hp (h _)
  · intro n x h1 h2 W
    exact br_f (qp_nge16 h2) (qp_sh49 hp h2 hf W)
theorem qp_shifty {post : Int32 → SY → Prop} {f h s : Nat → Int32} {p : Nat} {dx dy : Int32} (hp : p < 3) (hf : qp_B f) (hh : ∀ k, k < 256 → h k = f (256 * p + k)) (H : post (nI (qp_n (qp_P p f (qp_sh f p dx dy) 256) p)) (qp_P p f (qp_sh f p dx dy) 256, h, s)) :
    ∃ n, wY_shift_45 post (nI p) dx dy n 0 f h s := by
  refine qp_le (fun n k => wY_shift_45 post (nI p) dx dy n (nI k) (qp_P p f (qp_sh f p dx dy) k) h s) 0 256 (by omega) ?_ ?_
  · intro n; exact br_t qp_ge256 (qp_cy hp H)
  · intro n k h1 h2 W
    have L : ∀ c : Int32, qp_sh f p dx dy k = c → vp_in (256 * nI p + nI k) 768 ∧ ∀ a', a' = upd (qp_P p f (qp_sh f p dx dy) k) (256 * nI p + nI k).toNatClampNeg (vp_nar .boolean c) → ∀ z, z = nI k + 1 → wY_shift_45 post (nI p) dx dy n z a' h s := by
      intro c hc
      refine And.intro (qp_v1 hp h2) ?_
      rw [qp_e1 hp h2, ← hc, qp_nb (qp_sh_B hf _ _ _ _)]
      exact nm_r (qp_P_st h2 rfl) (nm_r (nI_1 k) W)
    refine br_f (qp_nge h2) (And.intro qp_n16 (nm_r (e' := nI (k / 16) - dx) (by rw [qp_d16 (by omega)]) (And.intro qp_n16 (nm_r (e' := nI (k % 16) - dy) (by rw [qp_r16 (by omega)]) ?_))))
    have N : qp_sh f p dx dy k = 0 → wY_shift_99 post (wY_shift_45 post (nI p) dx dy n) (nI p) dx dy (nI k) (nI (k / 16) - dx) (nI (k % 16) - dy) (qp_P p f (qp_sh f p dx dy) k) h s := by
      intro hz
      unfold wY_shift_99 wY_shift_100
      exact br_t rfl (L 0 hz)
    have L' := L
    unfold qp_sh at N
    rw [show qp_sh f p dx dy k = _ from rfl] at L
    by_cases c1 : nI (k / 16) - dx < 0
    · exact br_t c1 (N (if_pos c1))
    by_cases c2 : 16 ≤ nI (k / 16) - dx
    · exact br_f c1 (br_t c2 (N (by rw [if_neg c1, if_pos c2])))
    by_cases c3 : nI (k % 16) - dy < 0
    · exact br_f c1 (br_f c2 (br_t c3 (N (by rw [if_neg c1, if_neg c2, if_pos c3]))))
    by_cases c4 : 16 ≤ nI (k % 16) - dy
    · exact br_f c1 (br_f c2 (br_f c3 (br_t c4 (N (by rw [if_neg c1, if_neg c2, if_neg c3, if_pos c4])))))
    refine br_f c1 (br_f c2 (br_f c3 (br_f c4 ?_)))
    obtain ⟨x', hx', e1⟩ := nI_of c1
    obtain ⟨y', hy', e2⟩ := nI_of c3
    have ev : qp_sh f p dx dy k = f (256 * p + (16 * x' + y')) := by
      unfold qp_sh
      rw [if_neg c1, if_neg c2, if_neg c3, if_neg c4, e1, e2, nI_clamp hx', nI_clamp hy']
    rw [e1] at c2 ⊢
    rw [e2] at c4 ⊢
    have hx2 : x' < 16 := by
      have : ¬ nI 16 ≤ nI x' := c2
      rw [nI_leI (by decide) hx'] at this; omega
    have hy2 : y' < 16 := by
      have : ¬ nI 16 ≤ nI y' := c4
      rw [nI_leI (by decide) hy'] at this; omega
    unfold wY_shift_100
    refine br_f qp_10 (And.intro (qp_v3 hx2 hy2) ?_)
    have eh : h (16 * nI x' + nI y').toNatClampNeg = qp_sh f p dx dy k := by
      rw [qp_e3 hx2 hy2, hh _ (by omega), ev]
    rw [eh]
    refine br_c (fun z => L' 0 z) (fun z => L' 1 ?_)
    rcases qp_sh_B hf p dx dy k with h0 | h0
    · exact absurd h0 z
    · exact h0
/-- zoom -/
def qp_z (f : Nat → Int32) (q c k : Nat) : Int32 := f (256 * q + (16 * (8 * (c / 2) + k / 16 / 2) + (8 * (c % 2) + k % 16 / 2)))
theorem qp_z57 {post : Int32 → SX → Prop} {J : Int32 → (Nat → Int32) → (Nat → Int32) → (Nat → Int32) → Prop} {f d l : Nat → Int32} {p q c x : Nat} (hp : p < 3) (hq : q < 3) (hc : c < 4) (hx : x < 16) (hf : qp_B f) (h : J (nI (x + 1)) f (qp_I d (qp_z f q c) (16 * (x + 1))) l) :
    ∃ n, wX_zoom_57 post J (nI p) (nI q) (nI (8 * (c / 2))) (nI (8 * (c % 2))) (nI x) n 0 f (qp_I d (qp_z f q c) (16 * x)) l := by
  refine qp_le (fun n y => wX_zoom_57 post J (nI p) (nI q) (nI (8 * (c / 2))) (nI (8 * (c % 2))) (nI x) n (nI y) f (qp_I d (qp_z f q c) (16 * x + y)) l) 0 16 (by omega) ?_ ?_
  · intro n
    exact br_t qp_ge16 (nm_r (nI_1 x) h)
  · intro n y h1 h2 W
    refine br_f (qp_nge16 h2) (And.intro qp_n2 (And.intro qp_n2 ?_))
    rw [qp_d2 (by omega), qp_d2 (by omega), nI_add, nI_add]
    refine qp_isx hf hq (by omega) (by omega) (And.intro (qp_v3 hx h2) ?_)
    have e : f (256 * q + (16 * (8 * (c / 2) + x / 2) + (8 * (c % 2) + y / 2))) = qp_z f q c (16 * x + y) := by
      unfold qp_z
      rw [show (16 * x + y) / 16 = x by omega, show (16 * x + y) % 16 = y by omega]
    rw [qp_e3 hx h2, qp_nb (hf _), e]
    exact nm_r qp_I_st (nm_r (nI_1 y) W)
theorem qp_zoomx {post : Int32 → SX → Prop} {f d l : Nat → Int32} {p q c : Nat} (hp : p < 3) (hq : q < 3) (hc : c < 4) (hf : qp_B f) (h : ∀ D, post (nI (qp_n (qp_P p f (qp_z f q c) 256) p)) (qp_P p f (qp_z f q c) 256, D, l)) :
    ∃ n, wX_zoom_47 post (nI p) (nI q) (nI (8 * (c / 2))) (nI (8 * (c % 2))) n 0 f d l := by
  refine qp_le (fun n x => wX_zoom_47 post (nI p) (nI q) (nI (8 * (c / 2))) (nI (8 * (c % 2))) n (nI x) f (qp_I d (qp_z f q c) (16 * x)) l) 0 16 (by omega) ?_ ?_
  · intro n
    refine br_t qp_ge16 (qp_tx hp ?_ ?_)
    · intro k hk
      rw [qp_I_in hk]; exact hf _
    · rw [qp_P_eq (T' := qp_z f q c) (fun k hk => qp_I_in hk)]
      exact qp_cxa hp (h _)
  · intro n x h1 h2 W
    exact br_f (qp_nge16 h2) (qp_z57 hp hq hc h2 hf W)
theorem qp_zoomy {post : Int32 → SY → Prop} {f h s : Nat → Int32} {p q c : Nat} (hp : p < 3) (hc : c < 4) (hf : qp_B f) (hh : ∀ k, k < 256 → h k = f (256 * q + k)) (H : post (nI (qp_n (qp_P p f (qp_z f q c) 256) p)) (qp_P p f (qp_z f q c) 256, h, s)) :
    ∃ n, wY_zoom_38 post (nI p) (nI c) n 0 f h s := by
  refine qp_le (fun n k => wY_zoom_38 post (nI p) (nI c) n (nI k) (qp_P p f (qp_z f q c) k) h s) 0 256 (by omega) ?_ ?_
  · intro n; exact br_t qp_ge256 (qp_cy hp H)
  · intro n k h1 h2 W
    have e1 : 8 * (nI c / 2) + (nI k / 16) / 2 = nI (8 * (c / 2) + k / 16 / 2) := by
      rw [qp_d2 (by omega), qp_d16 (by omega), qp_d2 (by omega), show (8 : Int32) = nI 8 from rfl, pk_mul, nI_add]
    have e2 : 8 * (nI c - nI c / 2 * 2) + (nI k - nI k / 16 * 16) / 2 = nI (8 * (c % 2) + k % 16 / 2) := by
      rw [qp_r2 (by omega), qp_r16 (by omega), qp_d2 (by omega), show (8 : Int32) = nI 8 from rfl, pk_mul, nI_add]
    refine br_f (qp_nge h2) (And.intro qp_n2 (And.intro qp_n16 (And.intro qp_n2 (nm_r e1 (And.intro qp_n2 (And.intro qp_n16 (And.intro qp_n2 (nm_r e2 ?_))))))))
    refine And.intro (qp_v3 (by omega) (by omega)) (And.intro (qp_v1 hp h2) ?_)
    rw [qp_e3 (by omega) (by omega), qp_e1 hp h2, hh _ (by omega), qp_nb (hf _)]
    exact nm_r (qp_P_st h2 rfl) (nm_r (nI_1 k) W)
end
section
/-! even blocks, tiles and their counts -/
abbrev qp_E (f : Nat → Int32) (p x y s : Nat) : Prop := ∀ i, i < s → ∀ j, j < s → f (256 * p + (16 * (x / s * s + i) + (y / s * s + j))) = f (256 * p + (16 * (x / s * s) + y / s * s))
theorem qp_bs : ∀ x, x < 16 → ∀ t, t < 5 → nI x &&& (-(nI (2 ^ t))) = nI (x / 2 ^ t * 2 ^ t) := by decide +kernel
theorem qp_2t : ∀ t, t < 5 → (1 : Int32) <<< (nI t &&& 31) = nI (2 ^ t) := by decide +kernel
theorem qp_st {t x : Nat} (ht : t < 5) (hx : x < 16) : x / 2 ^ t * 2 ^ t + 2 ^ t ≤ 16 := by
  have h : t = 0 ∨ t = 1 ∨ t = 2 ∨ t = 3 ∨ t = 4 := by omega
  rcases h with rfl | rfl | rfl | rfl | rfl <;> simp only [Nat.reducePow] <;> omega
theorem qp_p2 {t : Nat} (ht : t < 5) : 0 < 2 ^ t ∧ 2 ^ t ≤ 16 := by
  have h : t = 0 ∨ t = 1 ∨ t = 2 ∨ t = 3 ∨ t = 4 := by omega
  rcases h with rfl | rfl | rfl | rfl | rfl <;> decide
/-- the points of a block -/
def qp_o (lo hi k : Nat) : Nat := if lo / 16 ≤ k / 16 ∧ k / 16 ≤ hi / 16 ∧ lo % 16 ≤ k % 16 ∧ k % 16 ≤ hi % 16 then 1 else 0
theorem qp_sq1 : ∀ a, a < 8 → ∀ b, b < 8 → qp_s (qp_o (16 * (a * 2) + b * 2) (16 * (a * 2) + b * 2 + 17 * (2 - 1))) 256 = 2 * 2 := by decide +kernel
theorem qp_sq2 : ∀ a, a < 4 → ∀ b, b < 4 → qp_s (qp_o (16 * (a * 4) + b * 4) (16 * (a * 4) + b * 4 + 17 * (4 - 1))) 256 = 4 * 4 := by decide +kernel
theorem qp_sq3 : ∀ a, a < 2 → ∀ b, b < 2 → qp_s (qp_o (16 * (a * 8) + b * 8) (16 * (a * 8) + b * 8 + 17 * (8 - 1))) 256 = 8 * 8 := by decide +kernel
theorem qp_sq4 : ∀ a, a < 1 → ∀ b, b < 1 → qp_s (qp_o (16 * (a * 16) + b * 16) (16 * (a * 16) + b * 16 + 17 * (16 - 1))) 256 = 16 * 16 := by decide +kernel
theorem qp_sq {t x y : Nat} (ht : t < 5) (h0 : 0 < t) (hx : x < 16) (hy : y < 16) : qp_s (qp_o (16 * (x / 2 ^ t * 2 ^ t) + y / 2 ^ t * 2 ^ t) (16 * (x / 2 ^ t * 2 ^ t) + y / 2 ^ t * 2 ^ t + 17 * (2 ^ t - 1))) 256 = 2 ^ t * 2 ^ t := by
  have h : t = 1 ∨ t = 2 ∨ t = 3 ∨ t = 4 := by omega
  rcases h with rfl | rfl | rfl | rfl
  · exact qp_sq1 (x / 2) (by omega) (y / 2) (by omega)
  · exact qp_sq2 (x / 4) (by omega) (y / 4) (by omega)
  · exact qp_sq3 (x / 8) (by omega) (y / 8) (by omega)
  · exact qp_sq4 (x / 16) (by omega) (y / 16) (by omega)
theorem qp_s0 (n : Nat) : qp_s (fun _ => 0) n = 0 := by
  induction n with
  | zero => rfl
  | succ n ih => rw [qp_s1, ih]
theorem qp_g_le {f : Nat → Int32} {p lo hi k : Nat} : qp_g f p lo hi k ≤ qp_o lo hi k := by
  unfold qp_g qp_o
  split
  · unfold qp_w; split <;> omega
  · exact Nat.le_refl _
theorem qp_g_1 {f : Nat → Int32} {p lo hi k : Nat} (h : qp_ins lo hi k) (e : qp_g f p lo hi k = qp_o lo hi k) : ¬ f (256 * p + k) = 0 := by
  rw [qp_g_in h] at e
  intro z
  rw [qp_w0 z] at e
  have : qp_o lo hi k = 1 := if_pos h
  omega
theorem qp_Ec {f : Nat → Int32} {p a b s : Nat} (hf : qp_B f) (hs : 0 < s) (ha : a + s ≤ 16) (hb : b + s ≤ 16) (hc : qp_s (qp_o (16 * a + b) (16 * a + b + 17 * (s - 1))) 256 = s * s) :
    (qp_s (qp_g f p (16 * a + b) (16 * a + b + 17 * (s - 1))) 256 = 0 ∨ qp_s (qp_g f p (16 * a + b) (16 * a + b + 17 * (s - 1))) 256 = s * s) ↔ (∀ i, i < s → ∀ j, j < s → f (256 * p + (16 * (a + i) + (b + j))) = f (256 * p + (16 * a + b))) := by
  have hin : ∀ i, i < s → ∀ j, j < s → qp_ins (16 * a + b) (16 * a + b + 17 * (s - 1)) (16 * (a + i) + (b + j)) := by
    intro i hi j hj; unfold qp_ins; omega
  constructor
  · intro h i hi j hj
    rcases h with h | h
    · have z : ∀ k, k < 256 → 0 = qp_g f p (16 * a + b) (16 * a + b + 17 * (s - 1)) k := qp_s_eq (g := fun _ => 0) 256 (fun k _ => Nat.zero_le _) (by rw [qp_s0, h])
      have zz : ∀ i, i < s → ∀ j, j < s → f (256 * p + (16 * (a + i) + (b + j))) = 0 := by
        intro i hi j hj
        have q := z (16 * (a + i) + (b + j)) (by omega)
        rw [qp_g_in (hin i hi j hj)] at q
        unfold qp_w at q
        split at q
        · assumption
        · omega
      have z0 := zz 0 hs 0 hs
      rw [Nat.add_zero, Nat.add_zero] at z0
      rw [zz i hi j hj, z0]
    · have z : ∀ k, k < 256 → qp_g f p (16 * a + b) (16 * a + b + 17 * (s - 1)) k = qp_o (16 * a + b) (16 * a + b + 17 * (s - 1)) k := qp_s_eq 256 (fun k _ => qp_g_le) (by rw [h, hc])
      have zz : ∀ i, i < s → ∀ j, j < s → f (256 * p + (16 * (a + i) + (b + j))) = 1 := by
        intro i hi j hj
        have q := qp_g_1 (hin i hi j hj) (z (16 * (a + i) + (b + j)) (by omega))
        rcases hf (256 * p + (16 * (a + i) + (b + j))) with h0 | h0
        · exact absurd h0 q
        · exact h0
      have z0 := zz 0 hs 0 hs
      rw [Nat.add_zero, Nat.add_zero] at z0
      rw [zz i hi j hj, z0]
  · intro h
    have hk : ∀ k, k < 256 → qp_ins (16 * a + b) (16 * a + b + 17 * (s - 1)) k → f (256 * p + k) = f (256 * p + (16 * a + b)) := by
      intro k hk hi
      unfold qp_ins at hi
      have q := h (k / 16 - a) (by omega) (k % 16 - b) (by omega)
      rw [show 16 * (a + (k / 16 - a)) + (b + (k % 16 - b)) = k by omega] at q
      exact q
    by_cases c : f (256 * p + (16 * a + b)) = 0
    · refine Or.inl ?_
      rw [qp_s_congr (h := fun _ => 0) 256, qp_s0]
      intro k hk'
      by_cases hi : qp_ins (16 * a + b) (16 * a + b + 17 * (s - 1)) k
      · rw [qp_g_in hi, hk k hk' hi, qp_w0 c]
      · rw [qp_g_out hi]
    · refine Or.inr ?_
      rw [← hc]
      refine qp_s_congr 256 ?_
      intro k hk'
      by_cases hi : qp_ins (16 * a + b) (16 * a + b + 17 * (s - 1)) k
      · rw [qp_g_in hi, hk k hk' hi, qp_w1 c]
        exact (if_pos hi).symm
      · rw [qp_g_out hi]
        exact (if_neg hi).symm
theorem qp_evx {post : Int32 → Prop} {f d l : Nat → Int32} {p x y t : Nat} (hf : qp_B f) (hp : p < 3) (hx : x < 16) (hy : y < 16) (ht : t < 5) (h0t : 0 < t) (h1 : qp_E f p x y (2 ^ t) → post 1) (h0 : ¬ qp_E f p x y (2 ^ t) → post 0) : wpX_isEvenBlock post (f, d, l) (nI p) (nI x) (nI y) (nI (2 ^ t)) := by
  have hs := qp_p2 ht
  have ha := qp_st ht hx
  have hb := qp_st ht hy
  have hc : qp_s (qp_o (16 * (x / 2 ^ t * 2 ^ t) + y / 2 ^ t * 2 ^ t) (16 * (x / 2 ^ t * 2 ^ t) + y / 2 ^ t * 2 ^ t + 17 * (2 ^ t - 1))) 256 = 2 ^ t * 2 ^ t := qp_sq ht h0t hx hy
  have hE := qp_Ec (p := p) hf hs.1 ha hb hc
  have hbd : qp_s (qp_g f p (16 * (x / 2 ^ t * 2 ^ t) + y / 2 ^ t * 2 ^ t) (16 * (x / 2 ^ t * 2 ^ t) + y / 2 ^ t * 2 ^ t + 17 * (2 ^ t - 1))) 256 ≤ 2 ^ t * 2 ^ t := by
    rw [← hc]; exact qp_s_le 256 (fun k _ => qp_g_le)
  have hm : 2 ^ t * 2 ^ t ≤ 16 * 16 := Nat.mul_le_mul hs.2 hs.2
  unfold wpX_isEvenBlock wpX_blockStart
  dsimp only
  rw [qp_bs x hx t ht, qp_bs y hy t ht, qp_i3]
  have hbx : qp_E f p x y (2 ^ t) ↔ _ := hE.symm
  unfold qp_E at h1 h0
  rw [← hE] at h1 h0
  generalize x / 2 ^ t * 2 ^ t = a at *
  generalize y / 2 ^ t * 2 ^ t = b at *
  generalize 2 ^ t = s at *
  refine nm_e (nm_r (e' := nI (16 * a + b + 17 * (s - 1))) ?_ ?_)
  · rw [show (17 : Int32) = nI 17 from rfl, show (1 : Int32) = nI 1 from rfl, pk_sub (by omega), pk_mul, nI_add]
  · refine qp_cx hp (by omega) (by omega) (by omega) (by omega) ?_
    rw [pk_mul]
    refine pk_eq _ 0 (fun z => h1 (Or.inl z)) (fun z => ?_) rfl rfl (by omega) (by omega)
    exact pk_eq _ _ (fun z' => h1 (Or.inr z')) (fun z' => h0 (fun q => q.elim z z')) rfl rfl (by omega) (by omega)
/-- a tile's side -/
def qp_ts (f : Nat → Int32) (p x y : Nat) : Nat := if qp_E f p x y 16 then 16 else if qp_E f p x y 8 then 8 else if qp_E f p x y 4 then 4 else if qp_E f p x y 2 then 2 else 1
theorem qp_ts2 (f : Nat → Int32) (p x y : Nat) : ∃ t, t < 5 ∧ qp_ts f p x y = 2 ^ t := by
  unfold qp_ts
  split
  · exact ⟨4, by decide, rfl⟩
  split
  · exact ⟨3, by decide, rfl⟩
  split
  · exact ⟨2, by decide, rfl⟩
  split
  · exact ⟨1, by decide, rfl⟩
  · exact ⟨0, by decide, rfl⟩
theorem qp_lv {post : Int32 → Prop} {f d l : Nat → Int32} {p x y t n : Nat} (hf : qp_B f) (hp : p < 3) (hx : x < 16) (hy : y < 16) (ht : t < 4) (h1 : qp_E f p x y (2 ^ (t + 1)) → post (nI (2 ^ (t + 1)))) (h0 : ¬ qp_E f p x y (2 ^ (t + 1)) → wX_tileSize_3 post (nI p) (nI x) (nI y) f d l n (nI t)) : wX_tileSize_3 post (nI p) (nI x) (nI y) f d l (n + 1) (nI (t + 1)) := by
  refine br_f (nI_nle (by omega) (by omega)) (nm_r (qp_2t (t + 1) (by omega)) ?_)
  exact qp_evx hf hp hx hy (by omega) (by omega) (fun e => br_f qp_10 (h1 e)) (fun e => br_t rfl (nm_r (pk_m1 t) (h0 e)))
theorem qp_tsx {post : Int32 → Prop} {f d l : Nat → Int32} {p x y : Nat} (hf : qp_B f) (hp : p < 3) (hx : x < 16) (hy : y < 16) (h : post (nI (qp_ts f p x y))) : wpX_tileSize post (f, d, l) (nI p) (nI x) (nI y) := by
  refine ⟨5, ?_⟩
  unfold qp_ts at h
  refine qp_lv (t := 3) hf hp hx hy (by decide) (fun e => ?_) (fun e4 => ?_)
  · rw [if_pos e] at h; exact h
  rw [if_neg e4] at h
  refine qp_lv (t := 2) hf hp hx hy (by decide) (fun e => ?_) (fun e3 => ?_)
  · rw [if_pos e] at h; exact h
  rw [if_neg e3] at h
  refine qp_lv (t := 1) hf hp hx hy (by decide) (fun e => ?_) (fun e2 => ?_)
  · rw [if_pos e] at h; exact h
  rw [if_neg e2] at h
  refine qp_lv (t := 0) hf hp hx hy (by decide) (fun e => ?_) (fun e1 => ?_)
  · rw [if_pos e] at h; exact h
  rw [if_neg e1] at h
  exact br_t (by decide) h
theorem qp_evy {post : Int32 → Prop} {f d l : Nat → Int32} {p a b s : Nat} (hp : p < 3) (ha : a + s ≤ 16) (hb : b + s ≤ 16) (h1 : (∀ i, i < s → ∀ j, j < s → f (256 * p + (16 * (a + i) + (b + j))) = f (256 * p + (16 * a + b))) → post 1) (h0 : ¬ (∀ i, i < s → ∀ j, j < s → f (256 * p + (16 * (a + i) + (b + j))) = f (256 * p + (16 * a + b))) → post 0) : wpY_even post (f, d, l) (nI p) (nI a) (nI b) (nI s) := by
  have key : ∃ n, (∀ i', i' < 0 → ∀ j, j < s → f (256 * p + (16 * (a + i') + (b + j))) = f (256 * p + (16 * a + b))) → wY_even_3 post (nI p) (nI a) (nI b) (nI s) f d l n (nI 0) := by
    refine qp_le (fun n i => (∀ i', i' < i → ∀ j, j < s → f (256 * p + (16 * (a + i') + (b + j))) = f (256 * p + (16 * a + b))) → wY_even_3 post (nI p) (nI a) (nI b) (nI s) f d l n (nI i)) 0 s (by omega) ?_ ?_
    · intro n hI
      exact br_t (nI_le (Nat.le_refl s) (by omega)) (h1 hI)
    · intro n i _ hi W hI
      refine br_f (nI_ge hi (by omega)) ?_
      have key2 : ∃ m, (∀ j', j' < 0 → f (256 * p + (16 * (a + i) + (b + j'))) = f (256 * p + (16 * a + b))) → wY_even_13 post (wY_even_3 post (nI p) (nI a) (nI b) (nI s) f d l n) (nI p) (nI a) (nI b) (nI s) (nI i) f d l m (nI 0) := by
        refine qp_le (fun m j => (∀ j', j' < j → f (256 * p + (16 * (a + i) + (b + j'))) = f (256 * p + (16 * a + b))) → wY_even_13 post (wY_even_3 post (nI p) (nI a) (nI b) (nI s) f d l n) (nI p) (nI a) (nI b) (nI s) (nI i) f d l m (nI j)) 0 s (by omega) ?_ ?_
        · intro m hJ
          refine br_t (nI_le (Nat.le_refl s) (by omega)) (nm_r (nI_1 i) (W ?_))
          intro i' hi' j hj
          by_cases e : i' = i
          · subst e; exact hJ j hj
          · exact hI i' (by omega) j hj
        · intro m j _ hj V hJ
          have e1 : 256 * nI p + 16 * (nI a + nI i) + nI b + nI j = nI (256 * p + (16 * (a + i) + (b + j))) := by
            rw [nI_add, qp_i2, nI_add]
            exact congrArg nI (by omega)
          have e2 : 256 * nI p + 16 * nI a + nI b = nI (256 * p + (16 * a + b)) := by
            rw [qp_i2, Nat.add_assoc]
          refine br_f (nI_ge hj (by omega)) ?_
          rw [e1, e2]
          refine And.intro (vp_in_nI (by omega) (by decide)) (And.intro (vp_in_nI (by omega) (by decide)) ?_)
          rw [nI_clamp (by omega), nI_clamp (by omega)]
          refine br_c (fun z => nm_r (nI_1 j) (V ?_)) (fun z => h0 (fun q => z (q i hi j hj)))
          intro j' hj'
          by_cases e : j' = j
          · subst e; exact z
          · exact hJ j' (by omega)
      obtain ⟨m, hm⟩ := key2
      exact ⟨m, hm (fun _ h => absurd h (Nat.not_lt_zero _))⟩
  obtain ⟨n, hn⟩ := key
  exact ⟨n, hn (fun _ h => absurd h (Nat.not_lt_zero _))⟩
theorem qp_ly {post : Int32 → Prop} {f d l : Nat → Int32} {p x y t n : Nat} {c : Int32} (hp : p < 3) (hx : x < 16) (hy : y < 16) (ht : t < 5) (h1 : qp_E f p x y (2 ^ t) → wY_tileSize_6 post (nI p) (nI x) (nI y) f d l n (nI (2 ^ t)) (nI (2 ^ (t + 1)))) (h0 : ¬ qp_E f p x y (2 ^ t) → wY_tileSize_6 post (nI p) (nI x) (nI y) f d l n c (nI (2 ^ (t + 1)))) : wY_tileSize_6 post (nI p) (nI x) (nI y) f d l (n + 1) c (nI (2 ^ t)) := by
  have hs := qp_p2 ht
  have ha := qp_st ht hx
  have hb := qp_st ht hy
  have hz : ¬ nI (2 ^ t) = 0 := nI_ne0 hs.1 (by omega)
  have e2 : 2 * nI (2 ^ t) = nI (2 ^ (t + 1)) := by
    rw [show (2 : Int32) = nI 2 from rfl, pk_mul, Nat.pow_succ, Nat.mul_comm]
  refine br_f (nI_ge (b := 17) (by omega) (by decide)) (And.intro hz (And.intro hz ?_))
  rw [pk_div (by omega) hs.1 (by omega), pk_div (by omega) hs.1 (by omega), pk_mul, pk_mul]
  exact qp_evy hp ha hb (fun e => br_f qp_10 (nm_r e2 (h1 e))) (fun e => br_t rfl (nm_r e2 (h0 e)))
theorem qp_tsy {post : Int32 → Prop} {f d l : Nat → Int32} {p x y : Nat} (hp : p < 3) (hx : x < 16) (hy : y < 16) (h : post (nI (qp_ts f p x y))) : wpY_tileSize post (f, d, l) (nI p) (nI x) (nI y) := by
  have F : ∀ c : Int32, c = nI (qp_ts f p x y) → wY_tileSize_6 post (nI p) (nI x) (nI y) f d l 1 c (nI (2 ^ (4 + 1))) := by
    intro c hc
    rw [hc]
    exact br_t (by decide) h
  unfold qp_ts at F
  refine ⟨5, ?_⟩
  refine qp_ly (t := 1) hp hx hy (by decide) (fun e1 => ?_) (fun e1 => ?_) <;> refine qp_ly (t := 2) hp hx hy (by decide) (fun e2 => ?_) (fun e2 => ?_) <;> refine qp_ly (t := 3) hp hx hy (by decide) (fun e3 => ?_) (fun e3 => ?_) <;> refine qp_ly (t := 4) hp hx hy (by decide) (fun e4 => ?_) (fun e4 => ?_)
  all_goals
    refine F _ ?_
    first
      | (rw [if_pos e4]; done)
      | (rw [if_neg e4, if_pos e3]; done)
      | (rw [if_neg e4, if_neg e3, if_pos e2]; done)
      | (rw [if_neg e4, if_neg e3, if_neg e2, if_pos e1]; done)
      | (rw [if_neg e4, if_neg e3, if_neg e2, if_neg e1]; done)
      | (rw [if_neg e4, if_neg e3, if_neg e2, if_neg e1]; rfl)
      | (rw [if_pos e4]; rfl)
      | (rw [if_neg e4, if_pos e3]; rfl)
      | (rw [if_neg e4, if_neg e3, if_pos e2]; rfl)
      | (rw [if_neg e4, if_neg e3, if_neg e2, if_pos e1]; rfl)
end
section
/-! counts of tiles; border; same, within, next -/
def qp_G (f : Nat → Int32) (p sz k : Nat) : Nat := if (k / 16 % qp_ts f p (k / 16) (k % 16) = 0 ∧ k % 16 % qp_ts f p (k / 16) (k % 16) = 0) ∧ (sz = 0 ∨ sz = qp_ts f p (k / 16) (k % 16)) then 1 else 0
theorem qp_bse {x t : Nat} (hx : x < 16) (ht : t < 5) : (nI x &&& (-(nI (2 ^ t))) = nI x) ↔ x % 2 ^ t = 0 := by
  rw [qp_bs x hx t ht]
  have h1 := Nat.div_add_mod' x (2 ^ t)
  have h2 := Nat.div_mul_le_self x (2 ^ t)
  rw [nI_eq (by omega) (by omega)]
  omega
theorem qp_ct16 {post : Int32 → Prop} {J : Int32 → Int32 → Prop} {f d l : Nat → Int32} {p ls gs sz x : Nat} (hf : qp_B f) (hp : p < 3) (hx : x < 16) (hl : ls < 2 ^ 31) (hg : gs < 2 ^ 31) (hw : ∀ t, t < 5 → ((ls ≤ 2 ^ t ∧ 2 ^ t ≤ gs) ↔ (sz = 0 ∨ sz = 2 ^ t))) (h : J (nI (qp_s (qp_G f p sz) (16 * (x + 1)))) (nI (x + 1))) :
    ∃ n, wX_countTiles_16 post J (nI p) (nI ls) (nI gs) (nI x) f d l n (nI (qp_s (qp_G f p sz) (16 * x))) 0 := by
  refine qp_le (fun n y => wX_countTiles_16 post J (nI p) (nI ls) (nI gs) (nI x) f d l n (nI (qp_s (qp_G f p sz) (16 * x + y))) (nI y)) 0 16 (by omega) ?_ ?_
  · intro n
    exact br_t qp_ge16 (nm_r (nI_1 x) h)
  · intro n y h1 h2 W
    refine br_f (qp_nge16 h2) (qp_tsx hf hp hx h2 ?_)
    have hG : qp_G f p sz (16 * x + y) = if (x % qp_ts f p x y = 0 ∧ y % qp_ts f p x y = 0) ∧ (sz = 0 ∨ sz = qp_ts f p x y) then 1 else 0 := by
      unfold qp_G
      rw [show (16 * x + y) / 16 = x by omega, show (16 * x + y) % 16 = y by omega]
    obtain ⟨t, ht, e⟩ := qp_ts2 f p x y
    rw [e] at hG ⊢
    have hs := qp_p2 ht
    have W0 : qp_G f p sz (16 * x + y) = 0 → wX_countTiles_16 post J (nI p) (nI ls) (nI gs) (nI x) f d l n (nI (qp_s (qp_G f p sz) (16 * x + y))) (nI (y + 1)) := by
      intro z
      have W' := W
      rw [← Nat.add_assoc, qp_s1, z] at W'
      exact W'
    have W1 : qp_G f p sz (16 * x + y) = 1 → wX_countTiles_16 post J (nI p) (nI ls) (nI gs) (nI x) f d l n (nI (qp_s (qp_G f p sz) (16 * x + y) + 1)) (nI (y + 1)) := by
      intro z
      have W' := W
      rw [← Nat.add_assoc, qp_s1, z] at W'
      exact W'
    have L50 : ¬ (ls ≤ 2 ^ t ∧ 2 ^ t ≤ gs) → wX_countTiles_50 post J (wX_countTiles_16 post J (nI p) (nI ls) (nI gs) (nI x) f d l n) (nI p) (nI ls) (nI gs) (nI (qp_s (qp_G f p sz) (16 * x + y))) (nI x) (nI y) (nI (2 ^ t)) f d l := by
      intro z
      unfold wX_countTiles_50 wX_countTiles_51
      refine br_t rfl (nm_r (nI_1 y) (W0 ?_))
      rw [hG, if_neg (fun q => z ((hw t ht).mpr q.2))]
    refine pk_lt (2 ^ t) ls (fun z => L50 (by omega)) (fun z1 => pk_lt gs (2 ^ t) (fun z => L50 (by omega)) (fun z2 => ?_) rfl rfl hg (by omega)) rfl rfl (by omega) hl
    have w := (hw t ht).mp ⟨z1, z2⟩
    unfold wX_countTiles_51 wpX_blockStart
    refine br_f qp_10 ?_
    refine br_c (fun c1 => br_c (fun c2 => nm_r (nI_1 _) (nm_r (nI_1 y) (W1 ?_))) (fun c2 => nm_r (nI_1 y) (W0 ?_))) (fun c1 => nm_r (nI_1 y) (W0 ?_))
    · rw [qp_bse hx ht] at c1; rw [qp_bse h2 ht] at c2
      rw [hG, if_pos ⟨⟨c1, c2⟩, w⟩]
    · rw [qp_bse h2 ht] at c2
      rw [hG, if_neg (fun q => c2 q.1.2)]
    · rw [qp_bse hx ht] at c1
      rw [hG, if_neg (fun q => c1 q.1.1)]
theorem qp_ctx {post : Int32 → Prop} {f d l : Nat → Int32} {p ls gs sz : Nat} (hf : qp_B f) (hp : p < 3) (hl : ls < 2 ^ 31) (hg : gs < 2 ^ 31) (hw : ∀ t, t < 5 → ((ls ≤ 2 ^ t ∧ 2 ^ t ≤ gs) ↔ (sz = 0 ∨ sz = 2 ^ t))) (h : post (nI (qp_s (qp_G f p sz) 256))) : wpX_countTiles post (f, d, l) (nI p) (nI ls) (nI gs) := by
  refine qp_le (fun n x => wX_countTiles_6 post (nI p) (nI ls) (nI gs) f d l n (nI (qp_s (qp_G f p sz) (16 * x))) (nI x)) 0 16 (by omega) ?_ ?_
  · intro n
    exact br_t qp_ge16 h
  · intro n x h1 h2 W
    exact br_f (qp_nge16 h2) (qp_ct16 hf hp h2 hl hg hw W)
theorem qp_w16 : ∀ t, t < 5 → ((1 ≤ 2 ^ t ∧ 2 ^ t ≤ 16) ↔ (0 = 0 ∨ 0 = 2 ^ t)) := by decide
theorem qp_cty {post : Int32 → Prop} {f d l : Nat → Int32} {p sz : Nat} (hp : p < 3) (hz : sz < 2 ^ 31) (h : post (nI (qp_s (qp_G f p sz) 256))) : wpY_tally post (f, d, l) (nI p) (nI sz) := by
  refine qp_le (fun n k => wY_tally_5 post (nI p) (nI sz) f d l n (nI (qp_s (qp_G f p sz) k)) (nI k)) 0 256 (by omega) ?_ ?_
  · intro n
    exact br_t qp_ge256 h
  · intro n k h1 h2 W
    refine br_f (qp_nge h2) (And.intro qp_n16 (And.intro qp_n16 ?_))
    rw [qp_d16 (by omega), show (nI k - nI (k / 16) * 16) = nI (k % 16) from by rw [← qp_d16 (by omega), qp_r16 (by omega)]]
    refine qp_tsy hp (by omega) (by omega) ?_
    have hG : qp_G f p sz k = if (k / 16 % qp_ts f p (k / 16) (k % 16) = 0 ∧ k % 16 % qp_ts f p (k / 16) (k % 16) = 0) ∧ (sz = 0 ∨ sz = qp_ts f p (k / 16) (k % 16)) then 1 else 0 := rfl
    obtain ⟨t, ht, e⟩ := qp_ts2 f p (k / 16) (k % 16)
    rw [e] at hG ⊢
    have hs := qp_p2 ht
    have hz0 : ¬ nI (2 ^ t) = 0 := nI_ne0 hs.1 (by omega)
    have W0 : qp_G f p sz k = 0 → wY_tally_5 post (nI p) (nI sz) f d l n (nI (qp_s (qp_G f p sz) k)) (nI (k + 1)) := by
      intro z
      have W' := W
      rw [qp_s1, z] at W'
      exact W'
    have W1 : qp_G f p sz k = 1 → wY_tally_5 post (nI p) (nI sz) f d l n (nI (qp_s (qp_G f p sz) k + 1)) (nI (k + 1)) := by
      intro z
      have W' := W
      rw [qp_s1, z] at W'
      exact W'
    have m1 : k / 16 % 2 ^ t < 2 ^ t := Nat.mod_lt _ hs.1
    have m2 : k % 16 % 2 ^ t < 2 ^ t := Nat.mod_lt _ hs.1
    refine And.intro qp_n16 (And.intro hz0 ?_)
    rw [pk_rem (by omega) hs.1 (by omega), pk_rem (by omega) hs.1 (by omega)]
    refine pk_eq _ 0 (fun c1 => And.intro qp_n16 (And.intro hz0 (pk_eq _ 0 (fun c2 => ?_) (fun c2 => ?_) rfl rfl (by omega) (by omega)))) (fun c1 => ?_) rfl rfl (by omega) (by omega)
    · unfold wY_tally_57
      refine br_f qp_10 (pk_eq sz 0 (fun c3 => nm_r (nI_1 _) (nm_r (nI_1 k) (W1 ?_))) (fun c3 => pk_eq sz (2 ^ t) (fun c4 => nm_r (nI_1 _) (nm_r (nI_1 k) (W1 ?_))) (fun c4 => nm_r (nI_1 k) (W0 ?_)) rfl rfl (by omega) (by omega)) rfl rfl (by omega) (by omega))
      · rw [hG, if_pos ⟨⟨c1, c2⟩, Or.inl c3⟩]
      · rw [hG, if_pos ⟨⟨c1, c2⟩, Or.inr c4⟩]
      · rw [hG, if_neg (fun q => q.2.elim c3 c4)]
    · unfold wY_tally_56 wY_tally_57
      refine br_t rfl (nm_r (nI_1 k) (W0 ?_))
      rw [hG, if_neg (fun q => c2 q.1.2)]
    · unfold wY_tally_56 wY_tally_57
      refine br_t rfl (nm_r (nI_1 k) (W0 ?_))
      rw [hG, if_neg (fun q => c1 q.1.1)]
/-- border -/
def qp_b1 (f : Nat → Int32) (p k : Nat) : Nat := if k < 240 ∧ ¬ f (256 * p + (k + 16)) = f (256 * p + k) then 1 else 0
def qp_b2 (f : Nat → Int32) (p k : Nat) : Nat := if k % 16 < 15 ∧ ¬ f (256 * p + (k + 1)) = f (256 * p + k) then 1 else 0
theorem qp_b1n {f : Nat → Int32} {p k : Nat} (h : ¬ (k < 240 ∧ ¬ f (256 * p + (k + 16)) = f (256 * p + k))) : qp_b1 f p k = 0 := if_neg h
theorem qp_b1y {f : Nat → Int32} {p k : Nat} (h : k < 240 ∧ ¬ f (256 * p + (k + 16)) = f (256 * p + k)) : qp_b1 f p k = 1 := if_pos h
theorem qp_b2n {f : Nat → Int32} {p k : Nat} (h : ¬ (k % 16 < 15 ∧ ¬ f (256 * p + (k + 1)) = f (256 * p + k))) : qp_b2 f p k = 0 := if_neg h
theorem qp_b2y {f : Nat → Int32} {p k : Nat} (h : k % 16 < 15 ∧ ¬ f (256 * p + (k + 1)) = f (256 * p + k)) : qp_b2 f p k = 1 := if_pos h
def qp_b (f : Nat → Int32) (p k : Nat) : Nat := qp_b1 f p k + qp_b2 f p k
theorem qp_bo22 {post : Int32 → Prop} {J : Int32 → Int32 → Prop} {f d l : Nat → Int32} {p x : Nat} (hf : qp_B f) (hp : p < 3) (hx : x < 16) (h : J (nI (qp_s (qp_b f p) (16 * (x + 1)))) (nI (x + 1))) :
    ∃ n, wX_border_22 post J (nI p) (nI x) f d l n (nI (qp_s (qp_b f p) (16 * x))) 0 := by
  refine qp_le (fun n y => wX_border_22 post J (nI p) (nI x) f d l n (nI (qp_s (qp_b f p) (16 * x + y))) (nI y)) 0 16 (by omega) ?_ ?_
  · intro n
    exact br_t qp_ge16 (nm_r (nI_1 x) h)
  · intro n y h1 h2 W
    rw [← Nat.add_assoc, qp_s1] at W
    have L : ∀ c, c = qp_s (qp_b f p) (16 * x + y) + qp_b1 f p (16 * x + y) → wX_border_63 post J (wX_border_22 post J (nI p) (nI x) f d l n) (nI p) (nI c) (nI x) (nI y) (f (256 * p + (16 * x + y))) f d l := by
      intro c hc
      unfold qp_b at W
      rw [← Nat.add_assoc] at W
      unfold qp_b at hc
      rw [← hc] at W
      unfold wX_border_63
      refine pk_le 15 y (fun z => nm_r (nI_1 y) ?_) (fun z => ?_) rfl rfl (by omega) (by omega)
      · rw [qp_b2n (by omega)] at W; exact W
      · rw [nI_1 y]
        refine qp_isx hf hp hx (by omega) (br_c (fun c => nm_e ?_) (fun c => nm_r (nI_1 _) (nm_e ?_)))
        · rw [qp_b2n (k := 16 * x + y) (fun q => q.2 c)] at W; exact W
        · rw [qp_b2y (k := 16 * x + y) ⟨by omega, c⟩] at W; exact W
    refine br_f (qp_nge16 h2) (qp_isx hf hp hx h2 ?_)
    refine pk_le 15 x (fun z => L _ ?_) (fun z => ?_) rfl rfl (by omega) (by omega)
    · rw [qp_b1n (by omega)]; rfl
    · rw [nI_1 x]
      refine qp_isx hf hp (by omega) h2 ?_
      rw [show 16 * (x + 1) + y = 16 * x + y + 16 by omega]
      refine br_c (fun c => L _ ?_) (fun c => nm_r (nI_1 _) (L _ ?_))
      · rw [qp_b1n (fun q => q.2 c)]; rfl
      · rw [qp_b1y ⟨by omega, c⟩]
theorem qp_box {post : Int32 → Prop} {f d l : Nat → Int32} {p : Nat} (hf : qp_B f) (hp : p < 3) (h : post (nI (qp_s (qp_b f p) 256))) : ∃ n, wX_border_13 post (nI p) f d l n 0 0 := by
  refine qp_le (fun n x => wX_border_13 post (nI p) f d l n (nI (qp_s (qp_b f p) (16 * x))) (nI x)) 0 16 (by omega) ?_ ?_
  · intro n
    exact br_t qp_ge16 h
  · intro n x h1 h2 W
    exact br_f (qp_nge16 h2) (qp_bo22 hf hp h2 W)
theorem qp_boy {post : Int32 → Prop} {f d l : Nat → Int32} {p : Nat} (hp : p < 3) (h : post (nI (qp_s (qp_b f p) 256))) : ∃ n, wY_border_14 post (nI p) f d l n 0 0 := by
  refine qp_le (fun n k => wY_border_14 post (nI p) f d l n (nI (qp_s (qp_b f p) k)) (nI k)) 0 256 (by omega) ?_ ?_
  · intro n
    exact br_t qp_ge256 h
  · intro n k h1 h2 W
    rw [qp_s1] at W
    have L : ∀ c, c = qp_s (qp_b f p) k + qp_b1 f p k → wY_border_65 post (wY_border_14 post (nI p) f d l n) (nI p) (nI c) (nI k) (f (256 * p + k)) f d l := by
      intro c hc
      unfold qp_b at W
      rw [← Nat.add_assoc] at W
      unfold qp_b at hc
      rw [← hc] at W
      unfold wY_border_65
      refine And.intro qp_n16 (pk_le 15 (k % 16) (fun z => nm_r (nI_1 k) ?_) (fun z => ?_) rfl (qp_r16 (by omega)) (by omega) (by omega))
      · rw [qp_b2n (by omega)] at W; exact W
      · rw [qp_i1, nI_1]
        refine And.intro (vp_in_nI (by omega) (by decide)) ?_
        rw [nI_clamp (by omega), Nat.add_assoc]
        refine br_c (fun c => nm_r (nI_1 k) ?_) (fun c => nm_r (nI_1 _) (nm_r (nI_1 k) ?_))
        · rw [qp_b2n (fun q => q.2 c.symm)] at W; exact W
        · rw [qp_b2y ⟨by omega, fun q => c q.symm⟩] at W; exact W
    refine br_f (qp_nge h2) (And.intro (qp_v1 hp h2) ?_)
    rw [qp_e1 hp h2]
    refine nm_e (pk_le 240 k (fun z => L _ ?_) (fun z => ?_) rfl rfl (by omega) (by omega))
    · rw [qp_b1n (by omega)]; rfl
    · rw [qp_i1, show (16 : Int32) = nI 16 from rfl, nI_add]
      refine And.intro (vp_in_nI (by omega) (by decide)) ?_
      rw [nI_clamp (by omega), Nat.add_assoc]
      refine br_c (fun c => L _ ?_) (fun c => nm_r (nI_1 _) (L _ ?_))
      · rw [qp_b1n (fun q => q.2 c.symm)]; rfl
      · rw [qp_b1y ⟨by omega, fun q => c q.symm⟩]
/-- same, within, next: in lockstep -/
theorem qp_same {f d l h s : Nat → Int32} {p q : Nat} (hp : p < 3) (hq : q < 3) : ∀ m k, k + m = 256 → ∃ r : Int32, (∀ post : Int32 → Prop, post r → wX_same_18 post (nI p) (nI q) f d l (m + 1) (nI k)) ∧ (∀ post : Int32 → Prop, post r → wY_same_20 post (nI p) (nI q) f h s (m + 1) (nI k)) := by
  intro m
  induction m with
  | zero =>
    intro k hk
    have hk' : k = 256 := hk
    subst hk'
    exact ⟨1, fun _ hP => br_t qp_ge256 hP, fun _ hP => br_t qp_ge256 hP⟩
  | succ m ih =>
    intro k hk
    have h2 : k < 256 := by omega
    by_cases z : f (256 * nI p + nI k).toNatClampNeg = f (256 * nI q + nI k).toNatClampNeg
    · obtain ⟨r, hX, hY⟩ := ih (k + 1) (by omega)
      exact ⟨r, fun post hP => br_f (qp_nge h2) (And.intro (qp_v1 hp h2) (And.intro (qp_v1 hq h2) (br_t z (nm_r (nI_1 k) (hX post hP))))), fun post hP => br_f (qp_nge h2) (And.intro (qp_v1 hp h2) (And.intro (qp_v1 hq h2) (br_t z (nm_r (nI_1 k) (hY post hP)))))⟩
    · exact ⟨0, fun post hP => br_f (qp_nge h2) (And.intro (qp_v1 hp h2) (And.intro (qp_v1 hq h2) (br_f z hP))), fun post hP => br_f (qp_nge h2) (And.intro (qp_v1 hp h2) (And.intro (qp_v1 hq h2) (br_f z hP)))⟩
theorem qp_within {f d l h s : Nat → Int32} {p q : Nat} (hp : p < 3) (hq : q < 3) : ∀ m k, k + m = 256 → ∃ r : Int32, (∀ post : Int32 → Prop, post r → wX_within_18 post (nI p) (nI q) f d l (m + 1) (nI k)) ∧ (∀ post : Int32 → Prop, post r → wY_within_20 post (nI p) (nI q) f h s (m + 1) (nI k)) := by
  intro m
  induction m with
  | zero =>
    intro k hk
    have hk' : k = 256 := hk
    subst hk'
    exact ⟨1, fun _ hP => br_t qp_ge256 hP, fun _ hP => br_t qp_ge256 hP⟩
  | succ m ih =>
    intro k hk
    have h2 : k < 256 := by omega
    obtain ⟨r, hX, hY⟩ := ih (k + 1) (by omega)
    by_cases z : f (256 * nI p + nI k).toNatClampNeg = 0
    · exact ⟨r, fun post hP => br_f (qp_nge h2) (And.intro (qp_v1 hp h2) (br_t z (nm_r (nI_1 k) (hX post hP)))), fun post hP => br_f (qp_nge h2) (And.intro (qp_v1 hp h2) (br_t z (nm_r (nI_1 k) (hY post hP))))⟩
    · by_cases w : f (256 * nI q + nI k).toNatClampNeg = 0
      · exact ⟨0, fun post hP => br_f (qp_nge h2) (And.intro (qp_v1 hp h2) (br_f z (And.intro (qp_v1 hq h2) (br_t w hP)))), fun post hP => br_f (qp_nge h2) (And.intro (qp_v1 hp h2) (br_f z (And.intro (qp_v1 hq h2) (br_t w hP))))⟩
      · exact ⟨r, fun post hP => br_f (qp_nge h2) (And.intro (qp_v1 hp h2) (br_f z (And.intro (qp_v1 hq h2) (br_f w (nm_r (nI_1 k) (hX post hP)))))), fun post hP => br_f (qp_nge h2) (And.intro (qp_v1 hp h2) (br_f z (And.intro (qp_v1 hq h2) (br_f w (nm_r (nI_1 k) (hY post hP))))))⟩
theorem qp_next {f d l h s : Nat → Int32} {p : Nat} {a : Int32} (hp : p < 3) : ∀ m k, k + m = 256 → ∃ r : Int32, (∀ post : Int32 → Prop, post r → wX_next_11 post (nI p) a f d l (m + 1) (nI k)) ∧ (∀ post : Int32 → Prop, post r → wY_next_12 post (nI p) a f h s (m + 1) (nI k)) := by
  intro m
  induction m with
  | zero =>
    intro k hk
    have hk' : k = 256 := hk
    subst hk'
    exact ⟨-2, fun _ hP => br_t qp_ge256 hP, fun _ hP => br_t qp_ge256 hP⟩
  | succ m ih =>
    intro k hk
    have h2 : k < 256 := by omega
    obtain ⟨r, hX, hY⟩ := ih (k + 1) (by omega)
    by_cases z : nI k ≤ a
    · exact ⟨r, fun post hP => br_f (qp_nge h2) (br_t z (nm_r (nI_1 k) (hX post hP))), fun post hP => br_f (qp_nge h2) (br_t z (nm_r (nI_1 k) (hY post hP)))⟩
    · by_cases w : f (256 * nI p + nI k).toNatClampNeg = 0
      · exact ⟨r, fun post hP => br_f (qp_nge h2) (br_f z (And.intro (qp_v1 hp h2) (br_t w (nm_r (nI_1 k) (hX post hP))))), fun post hP => br_f (qp_nge h2) (br_f z (And.intro (qp_v1 hp h2) (br_t w (nm_r (nI_1 k) (hY post hP)))))⟩
      · exact ⟨nI k, fun post hP => br_f (qp_nge h2) (br_f z (And.intro (qp_v1 hp h2) (br_f w hP))), fun post hP => br_f (qp_nge h2) (br_f z (And.intro (qp_v1 hp h2) (br_f w hP)))⟩
end
section
/-! regions: closed sets of points, labels, leaders -/
def qp_cl (f : Nat → Int32) (p : Nat) (C : Nat → Prop) : Prop := ∀ k, k < 256 → ¬ f (256 * p + k) = 0 → (k < 240 → ¬ f (256 * p + (k + 16)) = 0 → (C k ↔ C (k + 16))) ∧ (k % 16 < 15 → ¬ f (256 * p + (k + 1)) = 0 → (C k ↔ C (k + 1)))
/-- equal labels: in the same closed sets -/
def qp_LB (f : Nat → Int32) (p : Nat) (l : Nat → Int32) : Prop := ∀ C : Nat → Prop, qp_cl f p C → ∀ i j, i < 256 → j < 256 → l i = l j → (C i ↔ C j)
theorem qp_clS (f : Nat → Int32) (p : Nat) : qp_cl f p (fun k => ¬ f (256 * p + k) = 0) := fun k _ h => ⟨fun _ h' => ⟨fun _ => h', fun _ => h⟩, fun _ h' => ⟨fun _ => h', fun _ => h⟩⟩
/-- the first point of its label -/
abbrev qp_L (f : Nat → Int32) (p : Nat) (l : Nat → Int32) (k : Nat) : Prop := ¬ f (256 * p + k) = 0 ∧ ∀ j, j < k → ¬ l j = l k
def qp_ld (f : Nat → Int32) (p : Nat) (l : Nat → Int32) (k : Nat) : Nat := if qp_L f p l k then 1 else 0
theorem qp_ld1 {f : Nat → Int32} {p : Nat} {l : Nat → Int32} {k : Nat} (h : qp_L f p l k) : qp_ld f p l k = 1 := if_pos h
theorem qp_ld0 {f : Nat → Int32} {p : Nat} {l : Nat → Int32} {k : Nat} (h : ¬ qp_L f p l k) : qp_ld f p l k = 0 := if_neg h
theorem qp_ldc {f : Nat → Int32} {p : Nat} {l l' : Nat → Int32} {k : Nat} (h : qp_L f p l k ↔ qp_L f p l' k) : qp_ld f p l k = qp_ld f p l' k := by
  by_cases c : qp_L f p l k
  · rw [qp_ld1 c, qp_ld1 (h.mp c)]
  · rw [qp_ld0 c, qp_ld0 (fun z => c (h.mpr z))]
def qp_N (f : Nat → Int32) (p : Nat) (l : Nat → Int32) : Nat := qp_s (qp_ld f p l) 256
theorem qp_first (l : Nat → Int32) (a : Nat) : ∃ m, m ≤ a ∧ l m = l a ∧ ∀ j, j < m → ¬ l j = l a := by
  have H : ∀ n, (∃ m, m ≤ n ∧ l m = l a ∧ ∀ j, j < m → ¬ l j = l a) ∨ (∀ j, j ≤ n → ¬ l j = l a) := by
    intro n
    induction n with
    | zero =>
      by_cases c : l 0 = l a
      · exact Or.inl ⟨0, Nat.le_refl 0, c, fun j hj => absurd hj (Nat.not_lt_zero j)⟩
      · exact Or.inr (fun j hj => by have e : j = 0 := by omega
                                     rw [e]; exact c)
    | succ n ih =>
      rcases ih with ⟨m, h1, h2, h3⟩ | h
      · exact Or.inl ⟨m, by omega, h2, h3⟩
      · by_cases c : l (n + 1) = l a
        · exact Or.inl ⟨n + 1, Nat.le_refl _, c, fun j hj => h j (by omega)⟩
        · refine Or.inr (fun j hj => ?_)
          by_cases e : j = n + 1
          · rw [e]; exact c
          · exact h j (by omega)
  rcases H a with h | h
  · exact h
  · exact absurd rfl (h a (Nat.le_refl a))
/-- one label given up: one leader fewer -/
theorem qp_merge {f : Nat → Int32} {p : Nat} {l l' : Nat → Int32} {a b : Nat} (ha : a < 256) (hb : b < 256) (hSa : ¬ f (256 * p + a) = 0) (hSb : ¬ f (256 * p + b) = 0) (hB : qp_LB f p l) (hab : ¬ l a = l b) (hl : ∀ i, i < 256 → l' i = if l i = l b then l a else l i) : qp_N f p l = qp_N f p l' + 1 := by
  obtain ⟨A, hA1, hA2, hA3⟩ := qp_first l a
  obtain ⟨B, hB1, hB2, hB3⟩ := qp_first l b
  have hSA : ¬ f (256 * p + A) = 0 := (hB _ (qp_clS f p) A a (by omega) ha hA2).mpr hSa
  have hSB : ¬ f (256 * p + B) = 0 := (hB _ (qp_clS f p) B b (by omega) hb hB2).mpr hSb
  have hAB : A ≠ B := by
    intro e
    rw [e] at hA2
    exact hab (hA2.symm.trans hB2)
  have l1 : ∀ i, i < 256 → l i = l b → l' i = l a := fun i hi e => by rw [hl i hi, if_pos e]
  have l2 : ∀ i, i < 256 → ¬ l i = l b → l' i = l i := fun i hi e => by rw [hl i hi, if_neg e]
  have l3 : ∀ i, i < 256 → l i = l a → l' i = l a := fun i hi e => by
    rw [l2 i hi (fun z => hab (e.symm.trans z)), e]
  have l4 : ∀ i, i < 256 → l' i = l a → l i = l a ∨ l i = l b := fun i hi e => by
    by_cases c : l i = l b
    · exact Or.inr c
    · rw [l2 i hi c] at e; exact Or.inl e
  -- the others
  have other : ∀ k, k < 256 → k ≠ A → k ≠ B → (qp_L f p l k ↔ qp_L f p l' k) := by
    intro k hk nA nB
    by_cases ca : l k = l a
    · constructor
      · intro h
        by_cases c : A < k
        · exact absurd (hA2.trans ca.symm) (h.2 A c)
        · exact absurd ca (hA3 k (by omega))
      · intro h
        by_cases c : A < k
        · exact absurd ((l3 A (by omega) hA2).trans (l3 k hk ca).symm) (h.2 A c)
        · exact absurd ca (hA3 k (by omega))
    · by_cases cb : l k = l b
      · constructor
        · intro h
          by_cases c : B < k
          · exact absurd (hB2.trans cb.symm) (h.2 B c)
          · exact absurd cb (hB3 k (by omega))
        · intro h
          by_cases c : B < k
          · exact absurd ((l1 B (by omega) hB2).trans (l1 k hk cb).symm) (h.2 B c)
          · exact absurd cb (hB3 k (by omega))
      · have ek : l' k = l k := l2 k hk cb
        constructor
        · intro h
          refine ⟨h.1, fun j hj e => ?_⟩
          rw [ek] at e
          by_cases c : l j = l b
          · rw [l1 j (by omega) c] at e; exact ca e.symm
          · rw [l2 j (by omega) c] at e; exact h.2 j hj e
        · intro h
          refine ⟨h.1, fun j hj e => h.2 j hj ?_⟩
          rw [ek, l2 j (by omega) (fun z => cb (e.symm.trans z)), e]
  have LA : qp_L f p l A := ⟨hSA, fun j hj e => hA3 j hj (e.trans hA2)⟩
  have LB : qp_L f p l B := ⟨hSB, fun j hj e => hB3 j hj (e.trans hB2)⟩
  unfold qp_N
  rcases Nat.lt_or_gt_of_ne hAB with h | h
  · -- A first: B goes
    have nB : ¬ qp_L f p l' B := fun z => z.2 A h ((l3 A (by omega) hA2).trans (l1 B (by omega) hB2).symm)
    have yA : qp_L f p l' A := by
      refine ⟨hSA, fun j hj e => ?_⟩
      rw [l3 A (by omega) hA2] at e
      rcases l4 j (by omega) e with q | q
      · exact hA3 j hj q
      · exact hB3 j (by omega) q
    refine qp_s_one (m := B) 256 (by omega) (fun k hk hne => ?_) ?_
    · by_cases c : k = A
      · rw [c, qp_ld1 LA, qp_ld1 yA]
      · exact qp_ldc (other k hk c hne)
    · rw [qp_ld1 LB, qp_ld0 nB]
  · have nA : ¬ qp_L f p l' A := fun z => z.2 B h ((l1 B (by omega) hB2).trans (l3 A (by omega) hA2).symm)
    have yB : qp_L f p l' B := by
      refine ⟨hSB, fun j hj e => ?_⟩
      rw [l1 B (by omega) hB2] at e
      rcases l4 j (by omega) e with q | q
      · exact hA3 j (by omega) q
      · exact hB3 j hj q
    refine qp_s_one (m := A) 256 (by omega) (fun k hk hne => ?_) ?_
    · by_cases c : k = B
      · rw [c, qp_ld1 LB, qp_ld1 yB]
      · exact qp_ldc (other k hk hne c)
    · rw [qp_ld1 LA, qp_ld0 nA]
theorem qp_mergeB {f : Nat → Int32} {p : Nat} {l l' : Nat → Int32} {a b : Nat} (ha : a < 256) (hb : b < 256) (hE : ∀ C : Nat → Prop, qp_cl f p C → (C a ↔ C b)) (hB : qp_LB f p l) (hl : ∀ i, i < 256 → l' i = if l i = l b then l a else l i) : qp_LB f p l' := by
  intro C hC i j hi hj e
  have hab := hE C hC
  have r : ∀ i, i < 256 → l i = l b → (C i ↔ C b) := fun i hi q => hB C hC i b hi hb q
  rw [hl i hi, hl j hj] at e
  by_cases ci : l i = l b
  · by_cases cj : l j = l b
    · exact (r i hi ci).trans (r j hj cj).symm
    · rw [if_pos ci, if_neg cj] at e
      exact (r i hi ci).trans (hab.symm.trans (hB C hC a j ha hj e))
  · by_cases cj : l j = l b
    · rw [if_neg ci, if_pos cj] at e
      exact (hB C hC i a hi ha e).trans (hab.trans (r j hj cj).symm)
    · rw [if_neg ci, if_neg cj] at e
      exact hB C hC i j hi hj e
/-- unite's loop -/
def qp_ur (l : Nat → Int32) (g : Int32) (j : Nat) : Nat := if l j = g ∧ j < 256 then j else 256
def qp_U (l : Nat → Int32) (c g : Int32) (k : Nat) : Nat → Int32 := qp_a l (fun _ => c) (qp_ur l g) k
theorem qp_U_rd {l : Nat → Int32} {c g : Int32} {k : Nat} (hk : k < 256) : qp_U l c g k k = l k := qp_a_rd (by unfold qp_ur; split <;> omega)
theorem qp_U_in {l : Nat → Int32} {c g : Int32} {i : Nat} (hi : i < 256) : qp_U l c g 256 i = if l i = g then c else l i := by
  by_cases e : l i = g
  · rw [if_pos e]
    exact qp_a_wr (by unfold qp_ur; rw [if_pos ⟨e, hi⟩]; exact hi)
  · rw [if_neg e]
    exact qp_a_rd (by unfold qp_ur; rw [if_neg (fun q => e q.1)]; omega)
theorem qp_u26 {post : Int32 → SX → Prop} {f d l : Nat → Int32} {c g : Int32} (h : post 1 (f, d, qp_U l c g 256)) : ∃ n, wX_unite_26 post c g n 0 f d l := by
  refine qp_le (fun n i => wX_unite_26 post c g n (nI i) f d (qp_U l c g i)) 0 256 (by omega) ?_ ?_
  · intro n; exact br_t qp_ge256 h
  · intro n i h1 h2 W
    refine br_f (qp_nge h2) (And.intro (vp_in_nI h2 (by decide)) ?_)
    rw [qp_e0 h2, qp_U_rd h2]
    refine br_c (fun z => And.intro (vp_in_nI h2 (by decide)) (nm_r (e' := qp_U l c g (i + 1)) (qp_a_st ?_ rfl) (nm_r (nI_1 i) W))) (fun z => nm_r (nI_1 i) ?_)
    · intro j
      unfold qp_ur
      constructor
      · intro q; split at q <;> omega
      · rintro rfl
        rw [if_pos ⟨z, h2⟩]
    · have e : qp_U l c g (i + 1) = qp_U l c g i := by
        refine qp_a_skip (by omega) ?_
        intro j
        unfold qp_ur
        by_cases c1 : l j = g ∧ j < 256
        · rw [if_pos c1]
          by_cases c2 : j = i
          · rw [c2] at c1; exact absurd c1.1 z
          · omega
        · rw [if_neg c1]; omega
      rw [e] at W; exact W
theorem qp_un {post : Int32 → SX → Prop} {f d l : Nat → Int32} {p a b : Nat} (ha : a < 256) (hb : b < 256) (hSa : ¬ f (256 * p + a) = 0) (hSb : ¬ f (256 * p + b) = 0) (hE : ∀ C : Nat → Prop, qp_cl f p C → (C a ↔ C b)) (hB : qp_LB f p l)
    (H : ∀ (l' : Nat → Int32) (r : Nat), qp_N f p l' + r = qp_N f p l → qp_LB f p l' → (∀ i j, i < 256 → j < 256 → l i = l j → l' i = l' j) → l' a = l' b → post (nI r) (f, d, l')) : wpX_unite post (f, d, l) (nI a) (nI b) := by
  refine And.intro (vp_in_nI ha (by decide)) ?_
  rw [qp_e0 ha, qp_e0 hb]
  refine nm_e (And.intro (vp_in_nI hb (by decide)) (nm_e (br_c (fun z => ?_) (fun z => qp_u26 ?_))))
  · exact H l 0 rfl hB (fun _ _ _ _ e => e) z
  · have hl : ∀ i, i < 256 → qp_U l (l a) (l b) 256 i = if l i = l b then l a else l i := fun i hi => qp_U_in hi
    refine H _ 1 (qp_merge ha hb hSa hSb hB z hl).symm (qp_mergeB ha hb hE hB hl) ?_ ?_
    · intro i j hi hj e
      rw [hl i hi, hl j hj, e]
    · rw [hl a ha, hl b hb, if_pos rfl, if_neg z]
end
section
/-! regions: X's walk -/
def qp_A1 (f : Nat → Int32) (p : Nat) (l : Nat → Int32) (k : Nat) : Prop := k < 240 → ¬ f (256 * p + k) = 0 → ¬ f (256 * p + (k + 16)) = 0 → l k = l (k + 16)
def qp_A2 (f : Nat → Int32) (p : Nat) (l : Nat → Int32) (k : Nat) : Prop := k % 16 < 15 → ¬ f (256 * p + k) = 0 → ¬ f (256 * p + (k + 1)) = 0 → l k = l (k + 1)
def qp_V (f : Nat → Int32) (p : Nat) (l : Nat → Int32) (t : Nat) : Prop := (∀ k, k < t → qp_A1 f p l k ∧ qp_A2 f p l k) ∧ qp_LB f p l
theorem qp_A1m {f : Nat → Int32} {p : Nat} {l l' : Nat → Int32} {k : Nat} (hk : k < 256) (h : ∀ i j, i < 256 → j < 256 → l i = l j → l' i = l' j) (a : qp_A1 f p l k) : qp_A1 f p l' k := fun h1 h2 h3 => h _ _ hk (by omega) (a h1 h2 h3)
theorem qp_A2m {f : Nat → Int32} {p : Nat} {l l' : Nat → Int32} {k : Nat} (hk : k < 256) (h : ∀ i j, i < 256 → j < 256 → l i = l j → l' i = l' j) (a : qp_A2 f p l k) : qp_A2 f p l' k := fun h1 h2 h3 => h _ _ hk (by omega) (a h1 h2 h3)
theorem qp_e16 {p x y : Nat} : 256 * p + (16 * (x + 1) + y) = 256 * p + (16 * x + y + 16) := by omega
theorem qp_r52 {post : Int32 → SX → Prop} {J : Int32 → Int32 → (Nat → Int32) → (Nat → Int32) → (Nat → Int32) → Prop} {f d : Nat → Int32} {p x : Nat} (hf : qp_B f) (hp : p < 3) (hx : x < 16) (h : ∀ l, qp_V f p l (16 * (x + 1)) → J (nI (qp_N f p l)) (nI (x + 1)) f d l) :
    ∃ n, ∀ l, qp_V f p l (16 * x) → wX_regions_52 post J (nI p) (nI x) n (nI (qp_N f p l)) 0 f d l := by
  refine qp_le (fun n y => ∀ l, qp_V f p l (16 * x + y) → wX_regions_52 post J (nI p) (nI x) n (nI (qp_N f p l)) (nI y) f d l) 0 16 (by omega) ?_ ?_
  · intro n l hV
    exact br_t qp_ge16 (nm_r (nI_1 x) (h l hV))
  · intro n y h1 h2 W l hV
    have hk : 16 * x + y < 256 := by omega
    have L : ∀ l, qp_V f p l (16 * x + y) → qp_A1 f p l (16 * x + y) → wX_regions_116 post J (wX_regions_52 post J (nI p) (nI x) n) (nI p) (nI (qp_N f p l)) (nI x) (nI y) (nI (16 * x + y)) (f (256 * p + (16 * x + y))) f d l := by
      intro l hV hA
      have K : qp_A2 f p l (16 * x + y) → qp_V f p l (16 * x + (y + 1)) := by
        intro h2'
        refine ⟨fun k hk' => ?_, hV.2⟩
        by_cases e : k = 16 * x + y
        · rw [e]; exact ⟨hA, h2'⟩
        · exact hV.1 k (by omega)
      unfold wX_regions_116
      refine br_c (fun z => nm_r (nI_1 y) (W l (K (fun _ q _ => absurd z q)))) (fun z => ?_)
      refine pk_le 15 y (fun c => nm_r (nI_1 y) (W l (K (fun q _ _ => by omega)))) (fun c => ?_) rfl rfl (by omega) (by omega)
      rw [nI_1 y]
      refine qp_isx hf hp hx (by omega) (br_c (fun c2 => nm_e (W l (K (fun _ _ q => absurd c2 q)))) (fun c2 => ?_))
      rw [nI_1 (16 * x + y)]
      refine qp_un hk (by omega) z c2 (fun C hC => (hC _ hk z).2 (by omega) c2) hV.2 ?_
      intro l' r hr hB hm hab
      refine nm_r (pk_sub (by omega)) (nm_e ?_)
      rw [show qp_N f p l - r = qp_N f p l' by omega]
      refine W l' ⟨fun k hk' => ?_, hB⟩
      by_cases e : k = 16 * x + y
      · rw [e]; exact ⟨qp_A1m hk hm hA, fun _ _ _ => hab⟩
      · have q := hV.1 k (by omega)
        exact ⟨qp_A1m (by omega) hm q.1, qp_A2m (by omega) hm q.2⟩
    refine br_f (qp_nge16 h2) (nm_r (qp_i3 x y) (qp_isx hf hp hx h2 (br_c (fun z => L l hV (fun _ q _ => absurd z q)) (fun z => ?_))))
    refine pk_le 15 x (fun c => L l hV (fun q _ _ => by omega)) (fun c => ?_) rfl rfl (by omega) (by omega)
    rw [nI_1 x]
    refine qp_isx hf hp (by omega) h2 ?_
    rw [qp_e16]
    refine br_c (fun c2 => L l hV (fun _ _ q => absurd c2 q)) (fun c2 => ?_)
    rw [show (16 : Int32) = nI 16 from rfl, nI_add]
    refine qp_un hk (by omega) z c2 (fun C hC => (hC _ hk z).1 (by omega) c2) hV.2 ?_
    intro l' r hr hB hm hab
    refine nm_r (pk_sub (by omega)) ?_
    rw [show qp_N f p l - r = qp_N f p l' by omega]
    refine L l' ⟨fun k hk' => ?_, hB⟩ (fun _ _ _ => hab)
    have q := hV.1 k (by omega)
    exact ⟨qp_A1m (by omega) hm q.1, qp_A2m (by omega) hm q.2⟩
theorem qp_r43 {post : Int32 → SX → Prop} {f d : Nat → Int32} {p : Nat} (hf : qp_B f) (hp : p < 3) (h : ∀ l, qp_V f p l 256 → post (nI (qp_N f p l)) (f, d, l)) :
    ∃ n, ∀ l, qp_V f p l 0 → wX_regions_43 post (nI p) n (nI (qp_N f p l)) 0 f d l := by
  refine qp_le (fun n x => ∀ l, qp_V f p l (16 * x) → wX_regions_43 post (nI p) n (nI (qp_N f p l)) (nI x) f d l) 0 16 (by omega) ?_ ?_
  · intro n l hV
    exact br_t qp_ge16 (h l hV)
  · intro n x h1 h2 W l hV
    obtain ⟨m, hm⟩ := qp_r52 (post := post) (d := d) hf hp h2 W
    exact br_f (qp_nge16 h2) ⟨m, hm l hV⟩
theorem qp_rx {post : Int32 → SX → Prop} {f d l : Nat → Int32} {p : Nat} (hf : qp_B f) (hp : p < 3) (h : ∀ l, qp_V f p l 256 → post (nI (qp_N f p l)) (f, d, l)) : ∃ n, wX_regions_11 post (nI p) n 0 f d l := by
  refine qp_le (fun n i => wX_regions_11 post (nI p) n (nI i) f d (qp_I l nI i)) 0 256 (by omega) ?_ ?_
  · intro n
    have hin : ∀ i j, i < 256 → j < 256 → qp_I l nI 256 i = qp_I l nI 256 j → i = j := by
      intro i j hi hj e
      rw [qp_I_in hi, qp_I_in hj, nI_eq (by omega) (by omega)] at e
      exact e
    have hV : qp_V f p (qp_I l nI 256) 0 := ⟨fun k hk => absurd hk (Nat.not_lt_zero k), fun C hC i j hi hj e => by rw [hin i j hi hj e]⟩
    have hN : qp_n f p = qp_N f p (qp_I l nI 256) := by
      refine qp_s_congr 256 (fun k hk => ?_)
      by_cases c : f (256 * p + k) = 0
      · rw [qp_w0 c, qp_ld0 (fun q => q.1 c)]
      · rw [qp_w1 c, qp_ld1 ⟨c, fun j hj e => by have := hin j k (by omega) hk e; omega⟩]
    obtain ⟨m, hm⟩ := qp_r43 (post := post) (d := d) hf hp h
    refine br_t qp_ge256 (qp_cxa hp ⟨m, ?_⟩)
    rw [hN]
    exact hm _ hV
  · intro n i h1 h2 W
    refine br_f (qp_nge h2) (And.intro (vp_in_nI h2 (by decide)) ?_)
    rw [qp_e0 h2]
    exact nm_r qp_I_st (nm_r (nI_1 i) W)
end
section
/-! regions: Y's walk -/
def qp_M (s : Nat → Int32) (k : Nat) : Prop := (15 < k ∧ ¬ s (k - 16) = 0) ∨ (k < 240 ∧ ¬ s (k + 16) = 0) ∨ (0 < k % 16 ∧ ¬ s (k - 1) = 0) ∨ (k % 16 < 15 ∧ ¬ s (k + 1) = 0)
theorem qp_met {post : Int32 → Prop} {f h s : Nat → Int32} {k : Nat} (hk : k < 256) (h1 : qp_M s k → post 1) (h0 : ¬ qp_M s k → post 0) : wpY_met post (f, h, s) (nI k) := by
  have D : (¬ (15 < k ∧ ¬ s (k - 16) = 0)) → ¬ (k < 240 ∧ ¬ s (k + 16) = 0) → ¬ (0 < k % 16 ∧ ¬ s (k - 1) = 0) → wY_met_57 post (nI k) f h s := by
    intro n1 n2 n3
    unfold wY_met_57
    refine And.intro qp_n16 (pk_le 15 (k % 16) (fun z => h0 (fun q => ?_)) (fun z => ?_) rfl (qp_r16 (by omega)) (by omega) (by omega))
    · rcases q with q | q | q | q
      · exact n1 q
      · exact n2 q
      · exact n3 q
      · omega
    · rw [nI_1 k]
      refine And.intro (vp_in_nI (by omega) (by decide)) ?_
      rw [nI_clamp (by omega)]
      refine br_c (fun c => h0 (fun q => ?_)) (fun c => h1 (Or.inr (Or.inr (Or.inr ⟨z, c⟩))))
      rcases q with q | q | q | q
      · exact n1 q
      · exact n2 q
      · exact n3 q
      · exact q.2 c
  have Cc : (¬ (15 < k ∧ ¬ s (k - 16) = 0)) → ¬ (k < 240 ∧ ¬ s (k + 16) = 0) → wY_met_39 post (nI k) f h s := by
    intro n1 n2
    unfold wY_met_39
    refine And.intro qp_n16 (pk_le (k % 16) 0 (fun z => D n1 n2 (by omega)) (fun z => ?_) (qp_r16 (by omega)) rfl (by omega) (by omega))
    rw [show (1 : Int32) = nI 1 from rfl, pk_sub (by omega)]
    refine And.intro (vp_in_nI (by omega) (by decide)) ?_
    rw [nI_clamp (by omega)]
    exact br_c (fun c => D n1 n2 (fun q => q.2 c)) (fun c => h1 (Or.inr (Or.inr (Or.inl ⟨z, c⟩))))
  have Bb : (¬ (15 < k ∧ ¬ s (k - 16) = 0)) → wY_met_18 post (nI k) f h s := by
    intro n1
    unfold wY_met_18
    refine pk_le 240 k (fun z => Cc n1 (by omega)) (fun z => ?_) rfl rfl (by omega) (by omega)
    rw [show (16 : Int32) = nI 16 from rfl, nI_add]
    refine And.intro (vp_in_nI (by omega) (by decide)) ?_
    rw [nI_clamp (by omega)]
    exact br_c (fun c => Cc n1 (fun q => q.2 c)) (fun c => h1 (Or.inr (Or.inl ⟨z, c⟩)))
  refine pk_le k 15 (fun z => Bb (by omega)) (fun z => ?_) rfl rfl (by omega) (by omega)
  rw [show (16 : Int32) = nI 16 from rfl, pk_sub (by omega)]
  refine And.intro (vp_in_nI (by omega) (by decide)) ?_
  rw [nI_clamp (by omega)]
  exact br_c (fun c => Bb (fun q => q.2 c)) (fun c => h1 (Or.inl ⟨z, c⟩))
/-- the number of seen points -/
def qp_k (s : Nat → Int32) : Nat := qp_s (fun j => qp_w (s j)) 256
theorem qp_k_bd (s : Nat → Int32) : qp_k s ≤ 256 := by
  have := qp_s_bd (g := fun j => qp_w (s j)) (c := 1) 256 (fun k _ => by unfold qp_w; split <;> omega)
  unfold qp_k; omega
theorem qp_k_up {s : Nat → Int32} {k : Nat} (hk : k < 256) (h : s k = 0) : qp_k (upd s k 1) = qp_k s + 1 := by
  refine qp_s_one (m := k) 256 hk (fun j _ hne => ?_) ?_
  · rw [pk_un hne]
  · rw [pk_us, qp_w1 qp_10, qp_w0 h]
theorem qp_k_1 {s : Nat → Int32} {k : Nat} (hk : k < 256) (h : ¬ s k = 0) : 1 ≤ qp_k s := by
  have := qp_s_lt (g := fun _ => 0) (h := fun j => qp_w (s j)) (m := k) 256 (fun _ _ => Nat.zero_le _) hk (by rw [qp_w1 h]; omega)
  unfold qp_k; omega
/-- a point met by points of Q is in Q -/
theorem qp_MQ {f : Nat → Int32} {p : Nat} {Q : Nat → Prop} {s : Nat → Int32} {k : Nat} (hQ : qp_cl f p Q) (hQS : ∀ j, Q j → ¬ f (256 * p + j) = 0) (hs : ∀ j, j < 256 → ¬ s j = 0 → Q j) (hk : k < 256) (hS : ¬ f (256 * p + k) = 0) (hM : qp_M s k) : Q k := by
  rcases hM with ⟨c, z⟩ | ⟨c, z⟩ | ⟨c, z⟩ | ⟨c, z⟩
  · have q := hs (k - 16) (by omega) z
    have e : k - 16 + 16 = k := by omega
    have w := (hQ (k - 16) (by omega) (hQS _ q)).1 (by omega)
    rw [e] at w
    exact (w hS).mp q
  · have q := hs (k + 16) (by omega) z
    exact ((hQ k hk hS).1 c (hQS _ q)).mpr q
  · have q := hs (k - 1) (by omega) z
    have e : k - 1 + 1 = k := by omega
    have w := (hQ (k - 1) (by omega) (hQS _ q)).2 (by omega)
    rw [e] at w
    exact (w hS).mp q
  · have q := hs (k + 1) (by omega) z
    exact ((hQ k hk hS).2 c (hQS _ q)).mpr q
/-- nothing left to mark: closed -/
theorem qp_Mc {f : Nat → Int32} {p : Nat} {s : Nat → Int32} (h : ∀ k, k < 256 → ¬ f (256 * p + k) = 0 → s k = 0 → ¬ qp_M s k) : qp_cl f p (fun j => ¬ s j = 0) := by
  intro k hk hS
  constructor
  · intro c hS'
    constructor
    · intro z z'
      refine h (k + 16) (by omega) hS' z' (Or.inl ⟨by omega, ?_⟩)
      rw [Nat.add_sub_cancel]; exact z
    · intro z z'
      exact h k hk hS z' (Or.inr (Or.inl ⟨c, z⟩))
  · intro c hS'
    constructor
    · intro z z'
      refine h (k + 1) (by omega) hS' z' (Or.inr (Or.inr (Or.inl ⟨by omega, ?_⟩)))
      rw [Nat.add_sub_cancel]; exact z
    · intro z z'
      exact h k hk hS z' (Or.inr (Or.inr (Or.inr ⟨c, z⟩)))
/-- one round's inner walk: at step i, with the flag m and the marks s, begun at s0 -/
def qp_R (f : Nat → Int32) (p : Nat) (Q : Nat → Prop) (s0 : Nat → Int32) (i : Nat) (m : Int32) (s : Nat → Int32) : Prop :=
  (∀ j, j < 256 → ¬ s0 j = 0 → ¬ s j = 0) ∧ (∀ j, j < 256 → ¬ s j = 0 → Q j) ∧ (m = 0 → s = s0 ∧ ∀ k, k < i → k < 256 → ¬ f (256 * p + k) = 0 → s0 k = 0 → ¬ qp_M s0 k) ∧ (¬ m = 0 → qp_k s0 < qp_k s)
theorem qp_s20 {post : SY → Prop} {J : Int32 → Int32 → (Nat → Int32) → (Nat → Int32) → (Nat → Int32) → Prop} {f h s0 : Nat → Int32} {p r : Nat} {Q : Nat → Prop} (hp : p < 3) (hQ : qp_cl f p Q) (hQS : ∀ j, Q j → ¬ f (256 * p + j) = 0) (H : ∀ m s, qp_R f p Q s0 512 m s → J m (nI (r + 1)) f h s) :
    ∃ n, ∀ m s, qp_R f p Q s0 0 m s → wY_spread_20 post J (nI p) (nI r) n m 0 f h s := by
  refine qp_le (fun n i => ∀ m s, qp_R f p Q s0 i m s → wY_spread_20 post J (nI p) (nI r) n m (nI i) f h s) 0 512 (by omega) ?_ ?_
  · intro n m s hR
    exact br_t (nI_le (a := 512) (by omega) (by decide)) (nm_r (nI_1 r) (H m s hR))
  · intro n i _ hi W m s hR
    have L : ∀ k, k < 256 → (i < 256 → k = i) → wY_spread_47 post J (wY_spread_20 post J (nI p) (nI r) n) (nI p) m (nI r) (nI i) (nI k) f h s := by
      intro k hk hki
      -- nothing done at this step
      have N : (¬ f (256 * p + k) = 0 → s k = 0 → ¬ qp_M s k) → wY_spread_20 post J (nI p) (nI r) n m (nI (i + 1)) f h s := by
        intro z
        refine W m s ⟨hR.1, hR.2.1, fun e => ?_, hR.2.2.2⟩
        have q := hR.2.2.1 e
        refine ⟨q.1, fun k' h1 h2 h3 h4 => ?_⟩
        by_cases c : k' = i
        · have e2 : k' = k := by have := hki (by omega); omega
          rw [q.1] at z
          rw [e2] at h3 h4 ⊢
          exact z h3 h4
        · exact q.2 k' (by omega) h2 h3 h4
      unfold wY_spread_47
      refine And.intro (qp_v1 hp hk) ?_
      rw [qp_e1 hp hk, qp_e0 hk]
      refine br_c (fun z => nm_r (nI_1 i) (N (fun q => absurd z q))) (fun z => And.intro (vp_in_nI hk (by decide)) (br_c (fun c => ?_) (fun c => nm_r (nI_1 i) (N (fun _ q => absurd q c)))))
      refine qp_met hk (fun hM => br_f qp_10 (And.intro (vp_in_nI hk (by decide)) ?_)) (fun hM => br_t rfl (nm_r (nI_1 i) (N (fun _ _ => hM))))
      rw [qp_n1]
      refine nm_e (nm_r (nI_1 i) (W 1 _ ⟨?_, ?_, fun q => absurd q qp_10, fun _ => ?_⟩))
      · intro j hj hz
        by_cases e : j = k
        · rw [e, pk_us]; exact qp_10
        · rw [pk_un e]; exact hR.1 j hj hz
      · intro j hj hz
        by_cases e : j = k
        · rw [e]; exact qp_MQ hQ hQS hR.2.1 hk z hM
        · rw [pk_un e] at hz; exact hR.2.1 j hj hz
      · rw [qp_k_up hk c]
        by_cases e : m = 0
        · rw [(hR.2.2.1 e).1]; omega
        · have := hR.2.2.2 e; omega
    refine br_f (nI_ge (b := 512) hi (by decide)) (pk_le 256 i (fun z => ?_) (fun z => L i z (fun _ => rfl)) rfl rfl (by omega) (by omega))
    rw [show (511 : Int32) = nI 511 from rfl, pk_sub (by omega)]
    exact L (511 - i) (by omega) (fun q => by omega)
/-- the rounds -/
def qp_O (f : Nat → Int32) (p : Nat) (Q : Nat → Prop) (s0 : Nat → Int32) (r : Nat) (m : Int32) (s : Nat → Int32) : Prop :=
  (∀ j, j < 256 → ¬ s0 j = 0 → ¬ s j = 0) ∧ (∀ j, j < 256 → ¬ s j = 0 → Q j) ∧ (m = 0 → qp_cl f p (fun j => ¬ s j = 0)) ∧ (¬ m = 0 → r + 1 ≤ qp_k s)
theorem qp_spread {post : SY → Prop} {f h s0 : Nat → Int32} {p : Nat} {Q : Nat → Prop} (hp : p < 3) (hQ : qp_cl f p Q) (hQS : ∀ j, Q j → ¬ f (256 * p + j) = 0) (hs : ∀ j, j < 256 → ¬ s0 j = 0 → Q j) {a : Nat} (ha : a < 256) (hsa : ¬ s0 a = 0)
    (H : ∀ s, (∀ j, j < 256 → ¬ s0 j = 0 → ¬ s j = 0) → (∀ j, j < 256 → ¬ s j = 0 → Q j) → qp_cl f p (fun j => ¬ s j = 0) → post (f, h, s)) : wpY_spread post (f, h, s0) (nI p) := by
  have key : ∃ n, ∀ m s, qp_O f p Q s0 0 m s → wY_spread_4 post (nI p) n m (nI 0) f h s := by
    refine qp_le (fun n r => ∀ m s, qp_O f p Q s0 r m s → wY_spread_4 post (nI p) n m (nI r) f h s) 0 256 (by omega) ?_ ?_
    · intro n m s hO
      refine br_t qp_ge256 (H s hO.1 hO.2.1 ?_)
      by_cases e : m = 0
      · exact hO.2.2.1 e
      · have h1 := hO.2.2.2 e
        have h2 := qp_k_bd s
        omega
    · intro n r _ hr W m s hO
      refine br_f (qp_nge hr) (br_c (fun e => H s hO.1 hO.2.1 (hO.2.2.1 e)) (fun e => ?_))
      obtain ⟨n', hn⟩ := qp_s20 (post := post) (J := wY_spread_4 post (nI p) n) (f := f) (h := h) (s0 := s) (p := p) (r := r) (Q := Q) hp hQ hQS (fun m' s' hR => W m' s' ⟨fun j hj hz => hR.1 j hj (hO.1 j hj hz), hR.2.1, fun e' => by
        have q := hR.2.2.1 e'
        rw [q.1]
        exact qp_Mc (fun k hk => q.2 k (by omega) hk), fun e' => by
        have q := hR.2.2.2 e'
        have q2 := hO.2.2.2 e
        omega⟩)
      exact ⟨n', hn 0 s ⟨fun _ _ hz => hz, hO.2.1, fun _ => ⟨rfl, fun k hk => absurd hk (Nat.not_lt_zero k)⟩, fun q => absurd rfl q⟩⟩
  obtain ⟨n, hn⟩ := key
  exact ⟨n, hn 1 s0 ⟨fun _ _ hz => hz, hs, fun q => absurd q qp_10, fun _ => qp_k_1 ha hsa⟩⟩
/-- the flood, one region a leader -/
def qp_Fl (f : Nat → Int32) (p : Nat) (l : Nat → Int32) (k : Nat) (s : Nat → Int32) : Prop :=
  (∀ j, j < 256 → ¬ s j = 0 → ¬ f (256 * p + j) = 0 ∧ ∃ i, i < k ∧ l i = l j) ∧ (∀ i, i < k → ¬ f (256 * p + i) = 0 → ¬ s i = 0) ∧ qp_cl f p (fun j => ¬ s j = 0)
theorem qp_ry36 {post : Int32 → SY → Prop} {f h l : Nat → Int32} {p : Nat} (hp : p < 3) (hV : qp_V f p l 256) (H : ∀ s, post (nI (qp_N f p l)) (f, h, s)) :
    ∃ n, ∀ s, qp_Fl f p l 0 s → wY_regions_36 post (nI p) n 0 0 f h s := by
  refine qp_le (fun n k => ∀ s, qp_Fl f p l k s → wY_regions_36 post (nI p) n (nI (qp_s (qp_ld f p l) k)) (nI k) f h s) 0 256 (by omega) ?_ ?_
  · intro n s _
    exact br_t qp_ge256 (H s)
  · intro n k _ hk W s hF
    rw [qp_s1] at W
    refine br_f (qp_nge hk) (And.intro (qp_v1 hp hk) ?_)
    rw [qp_e1 hp hk, qp_e0 hk]
    have N : qp_ld f p l k = 0 → (¬ f (256 * p + k) = 0 → ¬ s k = 0) → wY_regions_36 post (nI p) n (nI (qp_s (qp_ld f p l) k)) (nI (k + 1)) f h s := by
      intro z z2
      rw [z] at W
      refine W s ⟨fun j hj hz => ?_, fun i hi hS => ?_, hF.2.2⟩
      · obtain ⟨q, i, hi, e⟩ := hF.1 j hj hz
        exact ⟨q, i, by omega, e⟩
      · by_cases e : i = k
        · rw [e] at hS ⊢; exact z2 hS
        · exact hF.2.1 i (by omega) hS
    refine br_c (fun z => nm_r (nI_1 k) (N (qp_ld0 (fun q => q.1 z)) (fun q => absurd z q))) (fun z => And.intro (vp_in_nI hk (by decide)) (br_c (fun c => And.intro (vp_in_nI hk (by decide)) ?_) (fun c => nm_r (nI_1 k) (N ?_ (fun _ => c)))))
    · rw [qp_n1]
      have hL : qp_L f p l k := by
        refine ⟨z, fun j hj e => ?_⟩
        have hSj : ¬ f (256 * p + j) = 0 := (hV.2 _ (qp_clS f p) j k (by omega) hk e).mpr z
        have h1 := hF.2.1 j hj hSj
        exact (hV.2 _ hF.2.2 j k (by omega) hk e).mp h1 c
      rw [qp_ld1 hL] at W
      refine nm_e (nm_r (nI_1 _) ?_)
      have hQ : qp_cl f p (fun j => ¬ f (256 * p + j) = 0 ∧ ∃ i, i < k + 1 ∧ l i = l j) := by
        intro t ht hS
        have q := hV.1 t ht
        constructor
        · intro c1 c2
          have e := q.1 c1 hS c2
          constructor
          · rintro ⟨_, i, hi, e2⟩
            exact ⟨c2, i, hi, e2.trans e⟩
          · rintro ⟨_, i, hi, e2⟩
            exact ⟨hS, i, hi, e2.trans e.symm⟩
        · intro c1 c2
          have e := q.2 c1 hS c2
          constructor
          · rintro ⟨_, i, hi, e2⟩
            exact ⟨c2, i, hi, e2.trans e⟩
          · rintro ⟨_, i, hi, e2⟩
            exact ⟨hS, i, hi, e2.trans e.symm⟩
      refine qp_spread (Q := fun j => ¬ f (256 * p + j) = 0 ∧ ∃ i, i < k + 1 ∧ l i = l j) hp hQ (fun j q => q.1) ?_ (a := k) hk (by rw [pk_us]; exact qp_10) ?_
      · intro j hj hz
        by_cases e : j = k
        · rw [e]; exact ⟨z, k, by omega, rfl⟩
        · rw [pk_un e] at hz
          obtain ⟨q, i, hi, e2⟩ := hF.1 j hj hz
          exact ⟨q, i, by omega, e2⟩
      · intro s2 m1 m2 m3
        refine nm_r (nI_1 k) (W s2 ⟨m2, fun i hi hS => ?_, m3⟩)
        refine m1 i (by omega) ?_
        by_cases e : i = k
        · rw [e, pk_us]; exact qp_10
        · rw [pk_un e]; exact hF.2.1 i (by omega) hS
    · refine qp_ld0 (fun q => ?_)
      obtain ⟨_, i, hi, e⟩ := hF.1 k hk c
      exact q.2 i hi e
theorem qp_ry {post : Int32 → SY → Prop} {f h s l : Nat → Int32} {p : Nat} (hp : p < 3) (hV : qp_V f p l 256) (H : ∀ s, post (nI (qp_N f p l)) (f, h, s)) : ∃ n, wY_regions_12 post (nI p) n 0 f h s := by
  refine qp_le (fun n i => wY_regions_12 post (nI p) n (nI i) f h (qp_I s (fun _ => 0) i)) 0 256 (by omega) ?_ ?_
  · intro n
    obtain ⟨m, hm⟩ := qp_ry36 (post := post) (h := h) hp hV H
    have hz : ∀ j, j < 256 → qp_I s (fun _ => 0) 256 j = 0 := fun j hj => qp_I_in hj
    refine br_t qp_ge256 ⟨m, hm _ ⟨fun j hj q => absurd (hz j hj) q, fun i hi => absurd hi (Nat.not_lt_zero i), ?_⟩⟩
    intro k hk hS
    exact ⟨fun c _ => ⟨fun q => absurd (hz k hk) q, fun q => absurd (hz (k + 16) (by omega)) q⟩, fun c _ => ⟨fun q => absurd (hz k hk) q, fun q => absurd (hz (k + 1) (by omega)) q⟩⟩
  · intro n i h1 h2 W
    refine br_f (qp_nge h2) (And.intro (vp_in_nI h2 (by decide)) ?_)
    rw [qp_e0 h2, qp_n0]
    exact nm_r qp_I_st (nm_r (nI_1 i) W)
end
section
/-! what is owed -/
def i_Rel (k : Nat) (u : SX) (v : SY) : Prop := u.1 = v.1 ∧ qp_B u.1
theorem i_up {k : Nat} {u : SX} {v : SY} (h : i_Rel k u v) : i_Rel (k + 5) u v := h
theorem i_vc0 : wpX_init (fun u => wpY_init (fun v => i_Rel 0 u v)) := ⟨rfl, fun _ => Or.inl rfl⟩
theorem i_vc_paint {k : Nat} {u : SX} {v : SY} (I : i_Rel k u v) (hk : k + 5 ≤ 2560) (v1 : Int32) (v2 : Int32) (v3 : Int32) (v4 : Int32) : wpX_paint (fun r u' => wpY_paint (fun r' v' => r' = r ∧ i_Rel (k + 5) u' v') v v1 v2 v3 v4) u v1 v2 v3 v4 := by
  obtain ⟨f, d, l⟩ := u
  obtain ⟨g, h, s⟩ := v
  obtain ⟨e, hf⟩ := I
  cases (show f = g from e)
  have hf : qp_B f := hf
  unfold wpX_paint
  dsimp only
  rcases qp_pic v1 with ⟨p, hp, rfl⟩ | ⟨bx, by'⟩
  · refine qp_px hp (br_f qp_10 ?_)
    rcases qp_fr v2 v3 with ⟨lo, hi, hl, hh, hq, hr, rfl, rfl⟩ | ⟨cx, cy⟩
    · refine qp_frx hl hh hq hr (br_f qp_10 ?_)
      have Y : ∀ post : Int32 → SY → Prop, ((v4 < 0 → post (-3) (f, h, s)) ∧ (¬ v4 < 0 → ((v4 ≤ 2 → (∃ n39 : Nat, wY_paint_39 post (nI p) (nI lo) (nI hi) v4 n39 0 f h s)) ∧ (¬ v4 ≤ 2 → post (-3) (f, h, s))))) → wpY_paint post (f, h, s) (nI p) (nI lo) (nI hi) v4 := by
        intro post H
        unfold wpY_paint
        dsimp only
        exact qp_py hp (br_t rfl (qp_fry hl hh hq hr (br_t rfl H)))
      refine br_c (fun z => Y _ (br_t z ⟨rfl, rfl, hf⟩)) (fun z => br_c (fun z2 => ?_) (fun z2 => Y _ (br_f z (br_f z2 ⟨rfl, rfl, hf⟩))))
      have Y' := fun (post : Int32 → SY → Prop) H => Y post (br_f z (br_t z2 H))
      obtain ⟨mo, hm, rfl⟩ := nI_of2 (M := 2) (n := 2) (by decide) z z2
      refine And.intro qp_n16 (nm_r (qp_d16 (by omega)) (qp_paintx hp hl hh (by omega) hq hr (Y' _ (qp_painty hp hl hh (by omega) ?_))))
      exact ⟨rfl, rfl, qp_F_B hf 256⟩
    · refine cx _ (br_t rfl ?_)
      unfold wpY_paint
      dsimp only
      exact qp_py hp (br_t rfl (cy _ _ _ _ (br_f qp_10 ⟨rfl, rfl, hf⟩)))
  · refine bx _ (br_t rfl ?_)
    unfold wpY_paint
    dsimp only
    exact by' _ _ _ _ (br_f qp_10 ⟨rfl, rfl, hf⟩)
theorem i_vc_join {k : Nat} {u : SX} {v : SY} (I : i_Rel k u v) (hk : k + 5 ≤ 2560) (v1 : Int32) (v2 : Int32) (v3 : Int32) : wpX_join (fun r u' => wpY_join (fun r' v' => r' = r ∧ i_Rel (k + 5) u' v') v v1 v2 v3) u v1 v2 v3 := by
  obtain ⟨f, d, l⟩ := u
  obtain ⟨g, h, s⟩ := v
  obtain ⟨e, hf⟩ := I
  cases (show f = g from e)
  have hf : qp_B f := hf
  unfold wpX_join
  dsimp only
  refine br_c (fun z => ?_) (fun z => br_c (fun z2 => ?_) (fun z2 => ?_))
  · unfold wpY_join
    exact br_t z ⟨rfl, rfl, hf⟩
  · obtain ⟨kd, hk, rfl⟩ := nI_of2 (M := 3) (n := 3) (by decide) z z2
    rcases qp_pic v2 with ⟨p, hp, rfl⟩ | ⟨bx, by'⟩
    · refine qp_px hp (br_f qp_10 ?_)
      rcases qp_pic v3 with ⟨q, hq, rfl⟩ | ⟨cx, cy⟩
      · refine qp_px hq (br_f qp_10 (qp_joinx (by omega) hp hq hf ?_))
        unfold wpY_join
        refine br_f z (br_t z2 (qp_py hp (br_t rfl (qp_py hq (br_t rfl (qp_hy hq hf ?_))))))
        refine qp_joiny (T := fun k => qp_jn kd (f (256 * p + k)) (f (256 * q + k))) (by omega) hp (fun k hk => by rw [qp_H_in hk]) ?_
        have hb : qp_B (qp_P p f (fun k => qp_jn kd (f (256 * p + k)) (f (256 * q + k))) 256) := qp_P_B hf (fun k _ => qp_jn_B _ _ _)
        exact ⟨rfl, rfl, hb⟩
      · refine cx _ (br_t rfl ?_)
        unfold wpY_join
        exact br_f z (br_t z2 (qp_py hp (br_t rfl (cy _ _ _ _ (br_f qp_10 ⟨rfl, rfl, hf⟩)))))
    · refine bx _ (br_t rfl ?_)
      unfold wpY_join
      exact br_f z (br_t z2 (by' _ _ _ _ (br_f qp_10 ⟨rfl, rfl, hf⟩)))
  · unfold wpY_join
    exact br_f z (br_f z2 ⟨rfl, rfl, hf⟩)
theorem i_vc_copy {k : Nat} {u : SX} {v : SY} (I : i_Rel k u v) (hk : k + 5 ≤ 2560) (v1 : Int32) (v2 : Int32) : wpX_copy (fun r u' => wpY_copy (fun r' v' => r' = r ∧ i_Rel (k + 5) u' v') v v1 v2) u v1 v2 := by
  obtain ⟨f, d, l⟩ := u
  obtain ⟨g, h, s⟩ := v
  obtain ⟨e, hf⟩ := I
  cases (show f = g from e)
  have hf : qp_B f := hf
  unfold wpX_copy
  dsimp only
  rcases qp_pic v1 with ⟨p, hp, rfl⟩ | ⟨bx, by'⟩
  · refine qp_px hp (br_f qp_10 ?_)
    rcases qp_pic v2 with ⟨q, hq, rfl⟩ | ⟨cx, cy⟩
    · refine qp_px hq (br_f qp_10 (qp_copyx hp hq hf ?_))
      unfold wpY_copy
      dsimp only
      have hh : ∀ k, k < 256 → qp_H q f h 256 k = 0 ∨ qp_H q f h 256 k = 1 := fun k hk => by rw [qp_H_in hk]; exact hf _
      refine qp_py hp (br_t rfl (qp_py hq (br_t rfl (qp_hy hq hf (qp_copyy hp hh ?_)))))
      rw [qp_P_eq (T' := fun k => f (256 * q + k)) (fun k hk => qp_H_in hk)]
      exact ⟨rfl, rfl, qp_P_B hf (fun k _ => hf _)⟩
    · refine cx _ (br_t rfl ?_)
      unfold wpY_copy
      dsimp only
      exact qp_py hp (br_t rfl (cy _ _ _ _ (br_f qp_10 ⟨rfl, rfl, hf⟩)))
  · refine bx _ (br_t rfl ?_)
    unfold wpY_copy
    dsimp only
    exact by' _ _ _ _ (br_f qp_10 ⟨rfl, rfl, hf⟩)
theorem i_vc_turn {k : Nat} {u : SX} {v : SY} (I : i_Rel k u v) (hk : k + 5 ≤ 2560) (v1 : Int32) (v2 : Int32) : wpX_turn (fun r u' => wpY_turn (fun r' v' => r' = r ∧ i_Rel (k + 5) u' v') v v1 v2) u v1 v2 := by
  obtain ⟨f, d, l⟩ := u
  obtain ⟨g, h, s⟩ := v
  obtain ⟨e, hf⟩ := I
  cases (show f = g from e)
  have hf : qp_B f := hf
  unfold wpX_turn
  dsimp only
  refine br_c (fun z => ?_) (fun z => br_c (fun z2 => ?_) (fun z2 => ?_))
  · unfold wpY_turn
    exact br_t z ⟨rfl, rfl, hf⟩
  · obtain ⟨kd, hk, rfl⟩ := nI_of2 (M := 2) (n := 2) (by decide) z z2
    rcases qp_pic v2 with ⟨p, hp, rfl⟩ | ⟨bx, by'⟩
    · refine qp_px hp (br_f qp_10 (qp_turnx (by omega) hp hf (fun D => ?_)))
      refine qp_ctx (ls := 1) (gs := 16) (sz := 0) (qp_T_B hf) hp (by decide) (by decide) qp_w16 ?_
      unfold wpY_turn
      refine br_f z (br_t z2 (qp_py hp (br_t rfl (qp_hy hp hf (qp_turny (by omega) hp hf (fun k hk => qp_H_in hk) (qp_cty (sz := 0) hp (by decide) ?_))))))
      exact ⟨rfl, rfl, qp_T_B hf⟩
    · refine bx _ (br_t rfl ?_)
      unfold wpY_turn
      exact br_f z (br_t z2 (by' _ _ _ _ (br_f qp_10 ⟨rfl, rfl, hf⟩)))
  · unfold wpY_turn
    exact br_f z (br_f z2 ⟨rfl, rfl, hf⟩)
theorem i_vc_shift {k : Nat} {u : SX} {v : SY} (I : i_Rel k u v) (hk : k + 5 ≤ 2560) (v1 : Int32) (v2 : Int32) (v3 : Int32) : wpX_shift (fun r u' => wpY_shift (fun r' v' => r' = r ∧ i_Rel (k + 5) u' v') v v1 v2 v3) u v1 v2 v3 := by
  obtain ⟨f, d, l⟩ := u
  obtain ⟨g, h, s⟩ := v
  obtain ⟨e, hf⟩ := I
  cases (show f = g from e)
  have hf : qp_B f := hf
  unfold wpX_shift
  dsimp only
  rcases qp_pic v1 with ⟨p, hp, rfl⟩ | ⟨bx, by'⟩
  · refine qp_px hp (br_f qp_10 ?_)
    refine br_c (fun z1 => ?_) (fun z1 => br_c (fun z2 => ?_) (fun z2 => br_c (fun z3 => ?_) (fun z3 => br_c (fun z4 => qp_shiftx hp hf (fun D => ?_)) (fun z4 => ?_))))
    · unfold wpY_shift
      dsimp only
      exact qp_py hp (br_t rfl (br_t z1 ⟨rfl, rfl, hf⟩))
    · unfold wpY_shift
      dsimp only
      exact qp_py hp (br_t rfl (br_f z1 (br_t z2 ⟨rfl, rfl, hf⟩)))
    · unfold wpY_shift
      dsimp only
      exact qp_py hp (br_t rfl (br_f z1 (br_f z2 (br_t z3 ⟨rfl, rfl, hf⟩))))
    · unfold wpY_shift
      dsimp only
      refine qp_py hp (br_t rfl (br_f z1 (br_f z2 (br_f z3 (br_t z4 (qp_hy hp hf (qp_shifty hp hf (fun k hk => qp_H_in hk) ?_)))))))
      exact ⟨rfl, rfl, qp_P_B hf (fun k _ => qp_sh_B hf _ _ _ _)⟩
    · unfold wpY_shift
      dsimp only
      exact qp_py hp (br_t rfl (br_f z1 (br_f z2 (br_f z3 (br_f z4 ⟨rfl, rfl, hf⟩)))))
  · refine bx _ (br_t rfl ?_)
    unfold wpY_shift
    dsimp only
    exact by' _ _ _ _ (br_f qp_10 ⟨rfl, rfl, hf⟩)
theorem i_vc_zoom {k : Nat} {u : SX} {v : SY} (I : i_Rel k u v) (hk : k + 5 ≤ 2560) (v1 : Int32) (v2 : Int32) (v3 : Int32) : wpX_zoom (fun r u' => wpY_zoom (fun r' v' => r' = r ∧ i_Rel (k + 5) u' v') v v1 v2 v3) u v1 v2 v3 := by
  obtain ⟨f, d, l⟩ := u
  obtain ⟨g, h, s⟩ := v
  obtain ⟨e, hf⟩ := I
  cases (show f = g from e)
  have hf : qp_B f := hf
  unfold wpX_zoom
  dsimp only
  rcases qp_pic v1 with ⟨p, hp, rfl⟩ | ⟨bx, by'⟩
  · refine qp_px hp (br_f qp_10 ?_)
    rcases qp_pic v2 with ⟨q, hq, rfl⟩ | ⟨cx, cy⟩
    · refine qp_px hq (br_f qp_10 ?_)
      refine br_c (fun z => ?_) (fun z => br_c (fun z2 => ?_) (fun z2 => ?_))
      · unfold wpY_zoom
        dsimp only
        exact qp_py hp (br_t rfl (qp_py hq (br_t rfl (br_t z ⟨rfl, rfl, hf⟩))))
      · obtain ⟨c, hc, rfl⟩ := nI_of2 (M := 3) (n := 3) (by decide) z z2
        have e1 : 8 * (nI c / 2) = nI (8 * (c / 2)) := by
          rw [qp_d2 (by omega), show (8 : Int32) = nI 8 from rfl, pk_mul]
        have e2 : 8 * (nI c - nI c / 2 * 2) = nI (8 * (c % 2)) := by
          rw [qp_r2 (by omega), show (8 : Int32) = nI 8 from rfl, pk_mul]
        refine And.intro qp_n2 (nm_r e1 (And.intro qp_n2 (nm_r e2 (qp_zoomx hp hq (by omega) hf (fun D => ?_)))))
        unfold wpY_zoom
        dsimp only
        refine qp_py hp (br_t rfl (qp_py hq (br_t rfl (br_f z (br_t z2 (qp_hy hq hf (qp_zoomy hp (by omega) hf (fun k hk => qp_H_in hk) ?_)))))))
        exact ⟨rfl, rfl, qp_P_B hf (fun k _ => hf _)⟩
      · unfold wpY_zoom
        dsimp only
        exact qp_py hp (br_t rfl (qp_py hq (br_t rfl (br_f z (br_f z2 ⟨rfl, rfl, hf⟩)))))
    · refine cx _ (br_t rfl ?_)
      unfold wpY_zoom
      dsimp only
      exact qp_py hp (br_t rfl (cy _ _ _ _ (br_f qp_10 ⟨rfl, rfl, hf⟩)))
  · refine bx _ (br_t rfl ?_)
    unfold wpY_zoom
    dsimp only
    exact by' _ _ _ _ (br_f qp_10 ⟨rfl, rfl, hf⟩)
theorem i_vc_at {k : Nat} {u : SX} {v : SY} (I : i_Rel k u v) (hk : k + 5 ≤ 2560) (v1 : Int32) (v2 : Int32) (v3 : Int32) : wpX_at (fun r => wpY_at (fun r' => r' = r ∧ i_Rel (k + 5) u v) v v1 v2 v3) u v1 v2 v3 := by
  obtain ⟨f, d, l⟩ := u
  obtain ⟨g, h, s⟩ := v
  obtain ⟨e, hf⟩ := I
  cases (show f = g from e)
  have hf : qp_B f := hf
  unfold wpX_at
  dsimp only
  rcases qp_pic v1 with ⟨p, hp, rfl⟩ | ⟨bx, by'⟩
  · refine qp_px hp (br_f qp_10 ?_)
    rcases qp_pt v2 v3 with ⟨x, y, hx, hy, rfl, rfl⟩ | ⟨cx, cy⟩
    · refine qp_ptx hx hy (br_f qp_10 (qp_isx hf hp hx hy (br_c (fun z => ?_) (fun z => ?_))))
      · unfold wpY_at
        dsimp only
        refine qp_py hp (br_t rfl (qp_pty hx hy (br_t rfl (And.intro (qp_v2 hp hx hy) ?_))))
        rw [qp_e2 hp hx hy]
        exact br_t z ⟨rfl, rfl, hf⟩
      · unfold wpY_at
        dsimp only
        refine qp_py hp (br_t rfl (qp_pty hx hy (br_t rfl (And.intro (qp_v2 hp hx hy) ?_))))
        rw [qp_e2 hp hx hy]
        exact br_f z ⟨rfl, rfl, hf⟩
    · refine cx _ (br_t rfl ?_)
      unfold wpY_at
      dsimp only
      exact qp_py hp (br_t rfl (cy _ _ _ _ (br_f qp_10 ⟨rfl, rfl, hf⟩)))
  · refine bx _ (br_t rfl ?_)
    unfold wpY_at
    dsimp only
    exact by' _ _ _ _ (br_f qp_10 ⟨rfl, rfl, hf⟩)
theorem i_vc_area {k : Nat} {u : SX} {v : SY} (I : i_Rel k u v) (hk : k + 5 ≤ 2560) (v1 : Int32) : wpX_area (fun r => wpY_area (fun r' => r' = r ∧ i_Rel (k + 5) u v) v v1) u v1 := by
  obtain ⟨f, d, l⟩ := u
  obtain ⟨g, h, s⟩ := v
  obtain ⟨e, hf⟩ := I
  cases (show f = g from e)
  have hf : qp_B f := hf
  unfold wpX_area
  dsimp only
  rcases qp_pic v1 with ⟨p, hp, rfl⟩ | ⟨bx, by'⟩
  · refine qp_px hp (br_f qp_10 ?_)
    refine qp_cxa hp ?_
    unfold wpY_area
    dsimp only
    exact qp_py hp (br_t rfl (qp_cy hp ⟨rfl, rfl, hf⟩))
  · refine bx _ (br_t rfl ?_)
    unfold wpY_area
    dsimp only
    exact by' _ _ _ _ (br_f qp_10 ⟨rfl, rfl, hf⟩)
theorem i_vc_areaIn {k : Nat} {u : SX} {v : SY} (I : i_Rel k u v) (hk : k + 5 ≤ 2560) (v1 : Int32) (v2 : Int32) (v3 : Int32) : wpX_areaIn (fun r => wpY_areaIn (fun r' => r' = r ∧ i_Rel (k + 5) u v) v v1 v2 v3) u v1 v2 v3 := by
  obtain ⟨f, d, l⟩ := u
  obtain ⟨g, h, s⟩ := v
  obtain ⟨e, hf⟩ := I
  cases (show f = g from e)
  have hf : qp_B f := hf
  unfold wpX_areaIn
  dsimp only
  rcases qp_pic v1 with ⟨p, hp, rfl⟩ | ⟨bx, by'⟩
  · refine qp_px hp (br_f qp_10 ?_)
    rcases qp_fr v2 v3 with ⟨lo, hi, hl, hh, hq, hr, rfl, rfl⟩ | ⟨cx, cy⟩
    · refine qp_frx hl hh hq hr (br_f qp_10 (qp_cx hp hl hh hq hr ?_))
      unfold wpY_areaIn
      dsimp only
      exact qp_py hp (br_t rfl (qp_fry hl hh hq hr (br_t rfl (qp_cyi hp hl hh ⟨rfl, rfl, hf⟩))))
    · refine cx _ (br_t rfl ?_)
      unfold wpY_areaIn
      dsimp only
      exact qp_py hp (br_t rfl (cy _ _ _ _ (br_f qp_10 ⟨rfl, rfl, hf⟩)))
  · refine bx _ (br_t rfl ?_)
    unfold wpY_areaIn
    dsimp only
    exact by' _ _ _ _ (br_f qp_10 ⟨rfl, rfl, hf⟩)
theorem i_vc_tiles {k : Nat} {u : SX} {v : SY} (I : i_Rel k u v) (hk : k + 5 ≤ 2560) (v1 : Int32) : wpX_tiles (fun r => wpY_tiles (fun r' => r' = r ∧ i_Rel (k + 5) u v) v v1) u v1 := by
  obtain ⟨f, d, l⟩ := u
  obtain ⟨g, h, s⟩ := v
  obtain ⟨e, hf⟩ := I
  cases (show f = g from e)
  have hf : qp_B f := hf
  unfold wpX_tiles
  dsimp only
  rcases qp_pic v1 with ⟨p, hp, rfl⟩ | ⟨bx, by'⟩
  · refine qp_px hp (br_f qp_10 ?_)
    refine qp_ctx (ls := 1) (gs := 16) (sz := 0) hf hp (by decide) (by decide) qp_w16 ?_
    unfold wpY_tiles
    dsimp only
    exact qp_py hp (br_t rfl (qp_cty (sz := 0) hp (by decide) ⟨rfl, rfl, hf⟩))
  · refine bx _ (br_t rfl ?_)
    unfold wpY_tiles
    dsimp only
    exact by' _ _ _ _ (br_f qp_10 ⟨rfl, rfl, hf⟩)
theorem i_vc_tilesOf {k : Nat} {u : SX} {v : SY} (I : i_Rel k u v) (hk : k + 5 ≤ 2560) (v1 : Int32) (v2 : Int32) : wpX_tilesOf (fun r => wpY_tilesOf (fun r' => r' = r ∧ i_Rel (k + 5) u v) v v1 v2) u v1 v2 := by
  obtain ⟨f, d, l⟩ := u
  obtain ⟨g, h, s⟩ := v
  obtain ⟨e, hf⟩ := I
  cases (show f = g from e)
  have hf : qp_B f := hf
  unfold wpX_tilesOf
  dsimp only
  rcases qp_pic v1 with ⟨p, hp, rfl⟩ | ⟨bx, by'⟩
  · refine qp_px hp (br_f qp_10 ?_)
    have K : ∀ t, t < 5 → v2 = nI (2 ^ t) → ∀ post : Int32 → Prop, post (nI (qp_s (qp_G f p (2 ^ t)) 256)) → wX_tilesOf_39 post (nI p) v2 f d l ∧ wY_tilesOf_42 post (nI p) v2 f h s := by
      intro t ht e post H
      have hs := qp_p2 ht
      rw [e]
      unfold wX_tilesOf_39 wY_tilesOf_42
      exact ⟨qp_ctx hf hp (by omega) (by omega) (fun t' ht' => ⟨fun q => Or.inr (by omega), fun q => by rcases q with q | q <;> omega⟩) H, qp_cty hp (by omega) H⟩
    have Q : ∀ post : Int32 → Prop, ((v2 = 1 → wY_tilesOf_42 post (nI p) v2 f h s) ∧ (¬ v2 = 1 → ((v2 = 2 → wY_tilesOf_42 post (nI p) v2 f h s) ∧ (¬ v2 = 2 → ((v2 = 4 → wY_tilesOf_42 post (nI p) v2 f h s) ∧ (¬ v2 = 4 → ((v2 = 8 → wY_tilesOf_42 post (nI p) v2 f h s) ∧ (¬ v2 = 8 → ((v2 = 16 → wY_tilesOf_42 post (nI p) v2 f h s) ∧ (¬ v2 = 16 → post (-2))))))))))) → wpY_tilesOf post (f, h, s) (nI p) v2 := by
      intro post H
      unfold wpY_tilesOf
      dsimp only
      exact qp_py hp (br_t rfl H)
    have Z : ∀ t, t < 5 → v2 = nI (2 ^ t) → (∀ post : Int32 → Prop, wY_tilesOf_42 post (nI p) v2 f h s → wpY_tilesOf post (f, h, s) (nI p) v2) → wX_tilesOf_39 (fun r => wpY_tilesOf (fun r' => r' = r ∧ i_Rel (k + 5) (f, d, l) (f, h, s)) (f, h, s) (nI p) v2) (nI p) v2 f d l := by
      intro t ht e q
      exact (K t ht e (fun r => wpY_tilesOf (fun r' => r' = r ∧ i_Rel (k + 5) (f, d, l) (f, h, s)) (f, h, s) (nI p) v2) (q _ (K t ht e _ ⟨rfl, rfl, hf⟩).2)).1
    refine br_c (fun c0 => Z 0 (by decide) c0 (fun post H => Q post (br_t c0 H))) (fun c0 => br_c (fun c1 => Z 1 (by decide) c1 (fun post H => Q post (br_f c0 (br_t c1 H)))) (fun c1 => br_c (fun c2 => Z 2 (by decide) c2 (fun post H => Q post (br_f c0 (br_f c1 (br_t c2 H))))) (fun c2 => br_c (fun c3 => Z 3 (by decide) c3 (fun post H => Q post (br_f c0 (br_f c1 (br_f c2 (br_t c3 H)))))) (fun c3 => br_c (fun c4 => Z 4 (by decide) c4 (fun post H => Q post (br_f c0 (br_f c1 (br_f c2 (br_f c3 (br_t c4 H))))))) (fun c4 => Q _ (br_f c0 (br_f c1 (br_f c2 (br_f c3 (br_f c4 ⟨rfl, rfl, hf⟩))))))))))
  · refine bx _ (br_t rfl ?_)
    unfold wpY_tilesOf
    dsimp only
    exact by' _ _ _ _ (br_f qp_10 ⟨rfl, rfl, hf⟩)
theorem i_vc_tileAt {k : Nat} {u : SX} {v : SY} (I : i_Rel k u v) (hk : k + 5 ≤ 2560) (v1 : Int32) (v2 : Int32) (v3 : Int32) : wpX_tileAt (fun r => wpY_tileAt (fun r' => r' = r ∧ i_Rel (k + 5) u v) v v1 v2 v3) u v1 v2 v3 := by
  obtain ⟨f, d, l⟩ := u
  obtain ⟨g, h, s⟩ := v
  obtain ⟨e, hf⟩ := I
  cases (show f = g from e)
  have hf : qp_B f := hf
  unfold wpX_tileAt
  dsimp only
  rcases qp_pic v1 with ⟨p, hp, rfl⟩ | ⟨bx, by'⟩
  · refine qp_px hp (br_f qp_10 ?_)
    rcases qp_pt v2 v3 with ⟨x, y, hx, hy, rfl, rfl⟩ | ⟨cx, cy⟩
    · refine qp_ptx hx hy (br_f qp_10 (qp_tsx hf hp hx hy ?_))
      unfold wpY_tileAt
      dsimp only
      exact qp_py hp (br_t rfl (qp_pty hx hy (br_t rfl (qp_tsy hp hx hy ⟨rfl, rfl, hf⟩))))
    · refine cx _ (br_t rfl ?_)
      unfold wpY_tileAt
      dsimp only
      exact qp_py hp (br_t rfl (cy _ _ _ _ (br_f qp_10 ⟨rfl, rfl, hf⟩)))
  · refine bx _ (br_t rfl ?_)
    unfold wpY_tileAt
    dsimp only
    exact by' _ _ _ _ (br_f qp_10 ⟨rfl, rfl, hf⟩)
theorem i_vc_same {k : Nat} {u : SX} {v : SY} (I : i_Rel k u v) (hk : k + 5 ≤ 2560) (v1 : Int32) (v2 : Int32) : wpX_same (fun r => wpY_same (fun r' => r' = r ∧ i_Rel (k + 5) u v) v v1 v2) u v1 v2 := by
  obtain ⟨f, d, l⟩ := u
  obtain ⟨g, h, s⟩ := v
  obtain ⟨e, hf⟩ := I
  cases (show f = g from e)
  have hf : qp_B f := hf
  unfold wpX_same
  dsimp only
  rcases qp_pic v1 with ⟨p, hp, rfl⟩ | ⟨bx, by'⟩
  · refine qp_px hp (br_f qp_10 ?_)
    rcases qp_pic v2 with ⟨q, hq, rfl⟩ | ⟨cx, cy⟩
    · obtain ⟨r, hX, hY⟩ := qp_same (f := f) (d := d) (l := l) (h := h) (s := s) hp hq 256 0 rfl
      refine qp_px hq (br_f qp_10 ⟨_, hX _ ?_⟩)
      unfold wpY_same
      dsimp only
      exact qp_py hp (br_t rfl (qp_py hq (br_t rfl ⟨_, hY _ ⟨rfl, rfl, hf⟩⟩)))
    · refine cx _ (br_t rfl ?_)
      unfold wpY_same
      dsimp only
      exact qp_py hp (br_t rfl (cy _ _ _ _ (br_f qp_10 ⟨rfl, rfl, hf⟩)))
  · refine bx _ (br_t rfl ?_)
    unfold wpY_same
    dsimp only
    exact by' _ _ _ _ (br_f qp_10 ⟨rfl, rfl, hf⟩)
theorem i_vc_within {k : Nat} {u : SX} {v : SY} (I : i_Rel k u v) (hk : k + 5 ≤ 2560) (v1 : Int32) (v2 : Int32) : wpX_within (fun r => wpY_within (fun r' => r' = r ∧ i_Rel (k + 5) u v) v v1 v2) u v1 v2 := by
  obtain ⟨f, d, l⟩ := u
  obtain ⟨g, h, s⟩ := v
  obtain ⟨e, hf⟩ := I
  cases (show f = g from e)
  have hf : qp_B f := hf
  unfold wpX_within
  dsimp only
  rcases qp_pic v1 with ⟨p, hp, rfl⟩ | ⟨bx, by'⟩
  · refine qp_px hp (br_f qp_10 ?_)
    rcases qp_pic v2 with ⟨q, hq, rfl⟩ | ⟨cx, cy⟩
    · obtain ⟨r, hX, hY⟩ := qp_within (f := f) (d := d) (l := l) (h := h) (s := s) hp hq 256 0 rfl
      refine qp_px hq (br_f qp_10 ⟨_, hX _ ?_⟩)
      unfold wpY_within
      dsimp only
      exact qp_py hp (br_t rfl (qp_py hq (br_t rfl ⟨_, hY _ ⟨rfl, rfl, hf⟩⟩)))
    · refine cx _ (br_t rfl ?_)
      unfold wpY_within
      dsimp only
      exact qp_py hp (br_t rfl (cy _ _ _ _ (br_f qp_10 ⟨rfl, rfl, hf⟩)))
  · refine bx _ (br_t rfl ?_)
    unfold wpY_within
    dsimp only
    exact by' _ _ _ _ (br_f qp_10 ⟨rfl, rfl, hf⟩)
theorem i_vc_border {k : Nat} {u : SX} {v : SY} (I : i_Rel k u v) (hk : k + 5 ≤ 2560) (v1 : Int32) : wpX_border (fun r => wpY_border (fun r' => r' = r ∧ i_Rel (k + 5) u v) v v1) u v1 := by
  obtain ⟨f, d, l⟩ := u
  obtain ⟨g, h, s⟩ := v
  obtain ⟨e, hf⟩ := I
  cases (show f = g from e)
  have hf : qp_B f := hf
  unfold wpX_border
  dsimp only
  rcases qp_pic v1 with ⟨p, hp, rfl⟩ | ⟨bx, by'⟩
  · refine qp_px hp (br_f qp_10 ?_)
    refine qp_box hf hp ?_
    unfold wpY_border
    dsimp only
    exact qp_py hp (br_t rfl (qp_boy hp ⟨rfl, rfl, hf⟩))
  · refine bx _ (br_t rfl ?_)
    unfold wpY_border
    dsimp only
    exact by' _ _ _ _ (br_f qp_10 ⟨rfl, rfl, hf⟩)
theorem i_vc_regions {k : Nat} {u : SX} {v : SY} (I : i_Rel k u v) (hk : k + 5 ≤ 2560) (v1 : Int32) : wpX_regions (fun r u' => wpY_regions (fun r' v' => r' = r ∧ i_Rel (k + 5) u' v') v v1) u v1 := by
  obtain ⟨f, d, l⟩ := u
  obtain ⟨g, h, s⟩ := v
  obtain ⟨e, hf⟩ := I
  cases (show f = g from e)
  have hf : qp_B f := hf
  unfold wpX_regions
  dsimp only
  rcases qp_pic v1 with ⟨p, hp, rfl⟩ | ⟨bx, by'⟩
  · refine qp_px hp (br_f qp_10 ?_)
    refine qp_rx hf hp (fun l' hV => ?_)
    unfold wpY_regions
    dsimp only
    exact qp_py hp (br_t rfl (qp_ry hp hV (fun s' => ⟨rfl, rfl, hf⟩)))
  · refine bx _ (br_t rfl ?_)
    unfold wpY_regions
    dsimp only
    exact by' _ _ _ _ (br_f qp_10 ⟨rfl, rfl, hf⟩)
theorem i_vc_next {k : Nat} {u : SX} {v : SY} (I : i_Rel k u v) (hk : k + 5 ≤ 2560) (v1 : Int32) (v2 : Int32) : wpX_next (fun r => wpY_next (fun r' => r' = r ∧ i_Rel (k + 5) u v) v v1 v2) u v1 v2 := by
  obtain ⟨f, d, l⟩ := u
  obtain ⟨g, h, s⟩ := v
  obtain ⟨e, hf⟩ := I
  cases (show f = g from e)
  have hf : qp_B f := hf
  unfold wpX_next
  dsimp only
  rcases qp_pic v1 with ⟨p, hp, rfl⟩ | ⟨bx, by'⟩
  · refine qp_px hp (br_f qp_10 ?_)
    obtain ⟨r, hX, hY⟩ := qp_next (f := f) (d := d) (l := l) (h := h) (s := s) (a := v2) hp 256 0 rfl
    refine ⟨_, hX _ ?_⟩
    unfold wpY_next
    dsimp only
    exact qp_py hp (br_t rfl ⟨_, hY _ ⟨rfl, rfl, hf⟩⟩)
  · refine bx _ (br_t rfl ?_)
    unfold wpY_next
    dsimp only
    exact by' _ _ _ _ (br_f qp_10 ⟨rfl, rfl, hf⟩)
end
