section
/-! rows pasted from kit/rows (PURE-ROWS) -/
theorem pk_us {f : Nat → Int32} {k : Nat} {x : Int32} : upd f k x k = x := if_pos rfl
theorem pk_un {f : Nat → Int32} {k j : Nat} {x : Int32} (h : j ≠ k) : upd f k x j = f j := if_neg h
theorem pk_sub {a b : Nat} (h : b ≤ a) : nI a - nI b = nI (a - b) := by
  obtain ⟨c, rfl⟩ : ∃ c, a = c + b := ⟨a - b, by omega⟩
  rw [← nI_add, Int32.add_sub_cancel, Nat.add_sub_cancel]
theorem pk_m1 (n : Nat) : nI (n + 1) + (-1) = nI n := by
  rw [← nI_1, Int32.add_assoc, show (1 : Int32) + (-1) = 0 from rfl, Int32.add_zero]
theorem pk_mul (a b : Nat) : nI a * nI b = nI (a * b) := (Int32.ofNat_mul a b).symm
theorem pk_div {a d : Nat} (ha : a < 2 ^ 31) (h0 : 0 < d) (hd : d < 2 ^ 31) : nI a / nI d = nI (a / d) := by
  apply Int32.toInt_inj.mp
  rw [lg_idiv_nonneg (by rw [nI_toInt ha]; omega) (by rw [nI_toInt hd]; omega), nI_toInt ha, nI_toInt hd, nI_toInt (Nat.lt_of_le_of_lt (Nat.div_le_self a d) ha)]
  first | rfl | exact (Int.natCast_ediv _ _).symm
theorem pk_rem {a d : Nat} (ha : a < 2 ^ 31) (h0 : 0 < d) (hd : d < 2 ^ 31) : nI a - nI a / nI d * nI d = nI (a % d) := by
  rw [pk_div ha h0 hd, pk_mul, pk_sub (Nat.div_mul_le_self a d)]
  exact congrArg nI (by have := Nat.div_add_mod' a d; omega)
theorem pk_sub_toInt {a b : Nat} (ha : a < 2 ^ 30) (hb : b < 2 ^ 30) : (nI a - nI b).toInt = (a : Int) - b := by
  rw [Int32.toInt_sub, nI_toInt (by omega), nI_toInt (by omega)]
  exact Int.bmod_eq_of_le (by omega) (by omega)
theorem pk_sneg {a b : Nat} (hb : b < 2 ^ 30) (h : a < b) : nI a - nI b < 0 := by
  rw [Int32.lt_iff_toInt_lt, pk_sub_toInt (by omega) hb, show (0 : Int32).toInt = 0 from by decide]
  omega
theorem pk_ix (x : Int32) {n : Nat} (hn : n < 2 ^ 31) : x < 0 ∨ nI n ≤ x ∨ ∃ j : Nat, j < n ∧ x = nI j := by
  by_cases h : x < 0
  · exact Or.inl h
  · obtain ⟨j, hj, rfl⟩ := nI_of h
    by_cases h2 : j < n
    · exact Or.inr (Or.inr ⟨j, h2, rfl⟩)
    · exact Or.inr (Or.inl (nI_le (by omega) hj))
theorem pk_le {x y : Int32} {A B : Prop} (a b : Nat) (f : a ≤ b → A) (g : b < a → B) (hx : x = nI a := by rfl) (hy : y = nI b := by rfl) (ha : a < 2 ^ 31 := by omega) (hb : b < 2 ^ 31 := by omega) : (x ≤ y → A) ∧ (¬ x ≤ y → B) := by
  subst hx hy
  rw [nI_leI ha hb]
  exact ⟨f, fun z => g (by omega)⟩
theorem pk_lt {x y : Int32} {A B : Prop} (a b : Nat) (f : a < b → A) (g : b ≤ a → B) (hx : x = nI a := by rfl) (hy : y = nI b := by rfl) (ha : a < 2 ^ 31 := by omega) (hb : b < 2 ^ 31 := by omega) : (x < y → A) ∧ (¬ x < y → B) := by
  subst hx hy
  rw [nI_ltI ha hb]
  exact ⟨f, fun z => g (by omega)⟩
theorem pk_eq {x y : Int32} {A B : Prop} (a b : Nat) (f : a = b → A) (g : a ≠ b → B) (hx : x = nI a := by rfl) (hy : y = nI b := by rfl) (ha : a < 2 ^ 31 := by omega) (hb : b < 2 ^ 31 := by omega) : (x = y → A) ∧ (¬ x = y → B) := by
  subst hx hy
  rw [nI_eq ha hb]
  exact ⟨f, g⟩
theorem pk_in {x : Int32} (n N : Nat) (h : n < N) (hx : x = nI n := by rfl) (hN : N < 2 ^ 31 := by omega) : vp_in x N := by
  subst hx
  exact vp_in_nI h hN
theorem pk_cl {x : Int32} (n : Nat) (hx : x = nI n := by rfl) (h : n < 2 ^ 31 := by omega) : x.toNatClampNeg = n := by
  subst hx
  exact nI_clamp h
end
section
/-! sums, arrays written in an order of their own, loops by a counter, numbers -/
def qp_s (g : Nat → Nat) : Nat → Nat
  | 0 => 0
  | n + 1 => qp_s g n + g n
theorem qp_s1 (g : Nat → Nat) (n : Nat) : qp_s g (n + 1) = qp_s g n + g n := rfl
theorem qp_s_sk {g : Nat → Nat} {a : Nat} : ∀ m, (∀ k, a ≤ k → k < a + m → g k = 0) → qp_s g (a + m) = qp_s g a := by
  intro m
  induction m with
  | zero => intro _; rfl
  | succ m ih =>
    intro h
    rw [← Nat.add_assoc, qp_s1, ih (fun k h1 h2 => h k h1 (by omega)), h (a + m) (by omega) (by omega)]
    rfl
theorem qp_s_skip {g : Nat → Nat} {a b : Nat} (hab : a ≤ b) (h : ∀ k, a ≤ k → k < b → g k = 0) : qp_s g b = qp_s g a := by
  obtain ⟨m, rfl⟩ : ∃ m, b = a + m := ⟨b - a, by omega⟩
  exact qp_s_sk m h
theorem qp_s_congr {g h : Nat → Nat} : ∀ n, (∀ k, k < n → g k = h k) → qp_s g n = qp_s h n := by
  intro n
  induction n with
  | zero => intro _; rfl
  | succ n ih =>
    intro e
    rw [qp_s1, qp_s1, ih (fun k hk => e k (by omega)), e n (by omega)]
theorem qp_s_le {g h : Nat → Nat} : ∀ n, (∀ k, k < n → g k ≤ h k) → qp_s g n ≤ qp_s h n := by
  intro n
  induction n with
  | zero => intro _; exact Nat.le_refl _
  | succ n ih =>
    intro e
    have h1 := ih (fun k hk => e k (by omega))
    have h2 := e n (by omega)
    rw [qp_s1, qp_s1]; omega
theorem qp_s_eq {g h : Nat → Nat} : ∀ n, (∀ k, k < n → g k ≤ h k) → qp_s g n = qp_s h n → ∀ k, k < n → g k = h k := by
  intro n
  induction n with
  | zero => intro _ _ k hk; omega
  | succ n ih =>
    intro e q k hk
    have h1 := qp_s_le n (fun k hk => e k (by omega))
    have h2 := e n (by omega)
    rw [qp_s1, qp_s1] at q
    by_cases hkn : k = n
    · subst hkn; omega
    · exact ih (fun k hk => e k (by omega)) (by omega) k (by omega)
theorem qp_s_lt {g h : Nat → Nat} {m : Nat} : ∀ n, (∀ k, k < n → g k ≤ h k) → m < n → g m < h m → qp_s g n < qp_s h n := by
  intro n
  induction n with
  | zero => intro _ h; omega
  | succ n ih =>
    intro e hm hl
    have h1 := qp_s_le n (fun k hk => e k (by omega))
    have h2 := e n (by omega)
    rw [qp_s1, qp_s1]
    by_cases hkn : m = n
    · subst hkn; omega
    · have := ih (fun k hk => e k (by omega)) (by omega) hl
      omega
theorem qp_s_bd {g : Nat → Nat} {c : Nat} : ∀ n, (∀ k, k < n → g k ≤ c) → qp_s g n ≤ c * n := by
  intro n
  induction n with
  | zero => intro _; exact Nat.le_refl _
  | succ n ih =>
    intro e
    have h1 := ih (fun k hk => e k (by omega))
    have h2 := e n (by omega)
    rw [qp_s1, Nat.mul_succ]; omega
/-- one point fewer -/
theorem qp_s_one {g h : Nat → Nat} {m : Nat} : ∀ n, m < n → (∀ k, k < n → k ≠ m → g k = h k) → g m = h m + 1 → qp_s g n = qp_s h n + 1 := by
  intro n
  induction n with
  | zero => intro h; omega
  | succ n ih =>
    intro hm e q
    rw [qp_s1, qp_s1]
    by_cases hkn : m = n
    · subst hkn
      rw [qp_s_congr m (fun k hk => e k (by omega) (by omega)), q]; omega
    · rw [ih (by omega) (fun k hk => e k (by omega)) q, e n (by omega) (by omega)]; omega
def qp_a (f T : Nat → Int32) (r : Nat → Nat) (k : Nat) : Nat → Int32 := fun j => if r j < k then T j else f j
theorem qp_a_0 (f T : Nat → Int32) (r : Nat → Nat) : qp_a f T r 0 = f := rfl
theorem qp_a_st {f T : Nat → Int32} {r : Nat → Nat} {k m : Nat} {v : Int32} (hr : ∀ j, r j = k ↔ j = m) (hv : v = T m) : upd (qp_a f T r k) m v = qp_a f T r (k + 1) := by
  funext j
  unfold upd qp_a
  by_cases h : j = m
  · have h1 := (hr j).mpr h
    rw [if_pos h, if_pos (by omega), hv, h]
  · have h1 : r j ≠ k := fun z => h ((hr j).mp z)
    rw [if_neg h]
    by_cases h2 : r j < k
    · rw [if_pos h2, if_pos (by omega)]
    · rw [if_neg h2, if_neg (by omega)]
theorem qp_a_skip {f T : Nat → Int32} {r : Nat → Nat} {a b : Nat} (hab : a ≤ b) (hr : ∀ j, r j < a ∨ b ≤ r j) : qp_a f T r b = qp_a f T r a := by
  funext j
  unfold qp_a
  rcases hr j with h | h
  · rw [if_pos h, if_pos (by omega)]
  · rw [if_neg (by omega), if_neg (by omega)]
theorem qp_a_rd {f T : Nat → Int32} {r : Nat → Nat} {k m : Nat} (h : ¬ r m < k) : qp_a f T r k m = f m := if_neg h
theorem qp_a_wr {f T : Nat → Int32} {r : Nat → Nat} {k m : Nat} (h : r m < k) : qp_a f T r k m = T m := if_pos h
/-- a loop whose whole state is said by its counter -/
theorem qp_lp (W : Nat → Nat → Prop) (a e : Nat) (hx : ∀ n, W (n + 1) e) (hs : ∀ n i, a ≤ i → i < e → W n (i + 1) → W (n + 1) i) : ∀ d i, a ≤ i → i + d = e → W (d + 1) i := by
  intro d
  induction d with
  | zero => intro i _ h; have h' : i = e := h; subst h'; exact hx 0
  | succ d ih => intro i h1 h2; exact hs (d + 1) i h1 (by omega) (ih (i + 1) (by omega) (by omega))
theorem qp_le (W : Nat → Nat → Prop) (a e : Nat) (h : a ≤ e) (hx : ∀ n, W (n + 1) e) (hs : ∀ n i, a ≤ i → i < e → W n (i + 1) → W (n + 1) i) : ∃ n, W n a :=
  ⟨_, qp_lp W a e hx hs (e - a) a (Nat.le_refl a) (by omega)⟩
theorem qp_i1 (p k : Nat) : 256 * nI p + nI k = nI (256 * p + k) := by
  rw [show (256 : Int32) = nI 256 from rfl, pk_mul, nI_add]
theorem qp_i2 (p x y : Nat) : 256 * nI p + 16 * nI x + nI y = nI (256 * p + 16 * x + y) := by
  rw [show (256 : Int32) = nI 256 from rfl, show (16 : Int32) = nI 16 from rfl, pk_mul, pk_mul, nI_add, nI_add]
theorem qp_i3 (x y : Nat) : 16 * nI x + nI y = nI (16 * x + y) := by
  rw [show (16 : Int32) = nI 16 from rfl, pk_mul, nI_add]
theorem qp_d16 {k : Nat} (h : k < 2 ^ 31) : nI k / 16 = nI (k / 16) := pk_div h (by decide) (by decide)
theorem qp_r16 {k : Nat} (h : k < 2 ^ 31) : nI k - nI k / 16 * 16 = nI (k % 16) := pk_rem h (by decide) (by decide)
theorem qp_d2 {k : Nat} (h : k < 2 ^ 31) : nI k / 2 = nI (k / 2) := pk_div h (by decide) (by decide)
theorem qp_r2 {k : Nat} (h : k < 2 ^ 31) : nI k - nI k / 2 * 2 = nI (k % 2) := pk_rem h (by decide) (by decide)
theorem qp_n16 : ¬ (16 : Int32) = 0 := by decide
theorem qp_n2 : ¬ (2 : Int32) = 0 := by decide
def qp_B (f : Nat → Int32) : Prop := ∀ i, f i = 0 ∨ f i = 1
theorem qp_nb {v : Int32} (h : v = 0 ∨ v = 1) : vp_nar .boolean v = v := by
  rcases h with rfl | rfl <;> decide
theorem qp_nn {v : Int32} (h : v = 0 ∨ v = 1) : narrow .boolean (.int v) = .int v := by
  rcases h with rfl | rfl <;> rfl
theorem qp_n0 : vp_nar .boolean 0 = 0 := by decide
theorem qp_n1 : vp_nar .boolean 1 = 1 := by decide
/-- what counts a set point -/
def qp_w (v : Int32) : Nat := if v = 0 then 0 else 1
theorem qp_w0 {v : Int32} (h : v = 0) : qp_w v = 0 := if_pos h
theorem qp_w1 {v : Int32} (h : ¬ v = 0) : qp_w v = 1 := if_neg h
/-- good and bad pictures -/
theorem qp_pic (v : Int32) : (∃ p, p < 3 ∧ v = nI p) ∨ ((∀ post : Int32 → Prop, post 0 → wpX_isPicture post v) ∧ (∀ (post : Int32 → Prop) (a b c : Nat → Int32), post 1 → wpY_bad post (a, b, c) v)) := by
  rcases pk_ix v (n := 3) (by decide) with h | h | ⟨j, hj, e⟩
  · exact Or.inr ⟨fun post hp => br_t h hp, fun post a b c hp => br_t h hp⟩
  · refine Or.inr ⟨fun post hp => br_c (fun _ => hp) (fun _ => br_t h hp), fun post a b c hp => br_c (fun _ => hp) (fun h0 => br_f ?_ hp)⟩
    obtain ⟨j, hj, rfl⟩ := nI_of h0
    rw [nI_leI (by decide) hj] at h
    exact nI_ge (b := j) (a := 2) (by omega) hj
  · exact Or.inl ⟨j, hj, e⟩
theorem qp_px {p : Nat} (hp : p < 3) {post : Int32 → Prop} (h : post 1) : wpX_isPicture post (nI p) :=
  br_f (nI_pos (by omega)) (br_f (nI_ge (b := 3) hp (by decide)) h)
theorem qp_py {p : Nat} (hp : p < 3) {post : Int32 → Prop} {a b c : Nat → Int32} (h : post 0) : wpY_bad post (a, b, c) (nI p) :=
  br_f (nI_pos (by omega)) (br_t (nI_le (b := 2) (by omega) (by decide)) h)
theorem qp_10 : ¬ (1 : Int32) = 0 := by decide
end
section
/-! points, frames, counting -/
theorem qp_pt (v w : Int32) : (∃ x y, x < 16 ∧ y < 16 ∧ v = nI x ∧ w = nI y) ∨ ((∀ post : Int32 → Prop, post 0 → wpX_isPoint post v w) ∧ (∀ (post : Int32 → Prop) (a b c : Nat → Int32), post 1 → wpY_out post (a, b, c) v w)) := by
  rcases pk_ix v (n := 16) (by decide) with h | h | ⟨x, hx, rfl⟩
  · exact Or.inr ⟨fun post hp => br_t h hp, fun post a b c hp => br_t h hp⟩
  · refine Or.inr ⟨fun post hp => br_c (fun _ => hp) (fun _ => br_t h hp), fun post a b c hp => br_c (fun _ => hp) (fun h0 => br_t ?_ hp)⟩
    obtain ⟨j, hj, rfl⟩ := nI_of h0
    rw [nI_leI (by decide) hj] at h
    exact nI_lt (a := 15) (b := j) (by omega) hj
  · have h0 : ¬ nI x < 0 := nI_pos (by omega)
    have h1 : ¬ (16 : Int32) ≤ nI x := nI_ge (b := 16) hx (by decide)
    have h2 : ¬ (15 : Int32) < nI x := nI_nlt (a := 15) (by omega) (by decide)
    rcases pk_ix w (n := 16) (by decide) with h | h | ⟨y, hy, rfl⟩
    · exact Or.inr ⟨fun post hp => br_f h0 (br_f h1 (br_t h hp)), fun post a b c hp => br_f h0 (br_f h2 (br_t h hp))⟩
    · refine Or.inr ⟨fun post hp => br_f h0 (br_f h1 (br_c (fun _ => hp) (fun _ => br_t h hp))), fun post a b c hp => br_f h0 (br_f h2 (br_c (fun _ => hp) (fun h3 => br_f ?_ hp)))⟩
      obtain ⟨j, hj, rfl⟩ := nI_of h3
      rw [nI_leI (by decide) hj] at h
      exact nI_ge (a := 15) (b := j) (by omega) hj
    · exact Or.inl ⟨x, y, hx, hy, rfl, rfl⟩
theorem qp_ptx {x y : Nat} (hx : x < 16) (hy : y < 16) {post : Int32 → Prop} (h : post 1) : wpX_isPoint post (nI x) (nI y) :=
  br_f (nI_pos (by omega)) (br_f (nI_ge (b := 16) hx (by decide)) (br_f (nI_pos (by omega)) (br_f (nI_ge (b := 16) hy (by decide)) h)))
theorem qp_pty {x y : Nat} (hx : x < 16) (hy : y < 16) {post : Int32 → Prop} {a b c : Nat → Int32} (h : post 0) : wpY_out post (a, b, c) (nI x) (nI y) :=
  br_f (nI_pos (by omega)) (br_f (nI_nlt (a := 15) (by omega) (by decide)) (br_f (nI_pos (by omega)) (br_t (nI_le (b := 15) (by omega) (by decide)) h)))
theorem qp_fr (v w : Int32) : (∃ lo hi, lo < 256 ∧ hi < 256 ∧ lo / 16 ≤ hi / 16 ∧ lo % 16 ≤ hi % 16 ∧ v = nI lo ∧ w = nI hi) ∨ ((∀ post : Int32 → Prop, post 0 → wpX_isRectangle post v w) ∧ (∀ (post : Int32 → Prop) (a b c : Nat → Int32), post 1 → wpY_badFrame post (a, b, c) v w)) := by
  rcases pk_ix v (n := 256) (by decide) with h | h | ⟨x, hx, rfl⟩
  · exact Or.inr ⟨fun post hp => br_t h hp, fun post a b c hp => br_t h hp⟩
  · have q : ¬ v < 0 → (255 : Int32) < v := by
      intro h0
      obtain ⟨j, hj, rfl⟩ := nI_of h0
      rw [nI_leI (by decide) hj] at h
      exact nI_lt (a := 255) (b := j) (by omega) hj
    exact Or.inr ⟨fun post hp => br_c (fun _ => hp) (fun h0 => br_t (q h0) hp), fun post a b c hp => br_c (fun _ => hp) (fun h0 => br_t (q h0) hp)⟩
  · have h0 : ¬ nI x < 0 := nI_pos (by omega)
    have h2 : ¬ (255 : Int32) < nI x := nI_nlt (a := 255) (by omega) (by decide)
    rcases pk_ix w (n := 256) (by decide) with h | h | ⟨y, hy, rfl⟩
    · exact Or.inr ⟨fun post hp => br_f h0 (br_f h2 (br_t h hp)), fun post a b c hp => br_f h0 (br_f h2 (br_t h hp))⟩
    · have q : ¬ w < 0 → ¬ w ≤ (255 : Int32) := by
        intro h0
        obtain ⟨j, hj, rfl⟩ := nI_of h0
        rw [nI_leI (by decide) hj] at h
        exact nI_ge (a := 255) (b := j) (by omega) hj
      exact Or.inr ⟨fun post hp => br_f h0 (br_f h2 (br_c (fun _ => hp) (fun h3 => br_f (q h3) hp))), fun post a b c hp => br_f h0 (br_f h2 (br_c (fun _ => hp) (fun h3 => br_f (q h3) hp)))⟩
    · have h3 : ¬ nI y < 0 := nI_pos (by omega)
      have h4 : nI y ≤ (255 : Int32) := nI_le (b := 255) (by omega) (by decide)
      by_cases hq : x / 16 ≤ y / 16
      · have h5 : ¬ nI y / 16 < nI x / 16 := by
          rw [qp_d16 (by omega), qp_d16 (by omega)]
          exact nI_nlt hq (by omega)
        by_cases hr : x % 16 ≤ y % 16
        · exact Or.inl ⟨x, y, hx, hy, hq, hr, rfl, rfl⟩
        · have h6 : (nI y - nI y / 16 * 16) < (nI x - nI x / 16 * 16) := by
            rw [qp_r16 (by omega), qp_r16 (by omega)]
            exact nI_lt (by omega) (by omega)
          have h7 : ¬ (nI x - nI x / 16 * 16) ≤ (nI y - nI y / 16 * 16) := by
            rw [qp_r16 (by omega), qp_r16 (by omega)]
            exact nI_ge (by omega) (by omega)
          exact Or.inr ⟨fun post hp => br_f h0 (br_f h2 (br_f h3 (br_t h4 (And.intro qp_n16 (And.intro qp_n16 (br_f h5 (And.intro qp_n16 (And.intro qp_n16 (br_t h6 hp))))))))), fun post a b c hp => br_f h0 (br_f h2 (br_f h3 (br_t h4 (And.intro qp_n16 (And.intro qp_n16 (br_f h5 (And.intro qp_n16 (And.intro qp_n16 (br_f h7 hp)))))))))⟩
      · have h5 : nI y / 16 < nI x / 16 := by
          rw [qp_d16 (by omega), qp_d16 (by omega)]
          exact nI_lt (by omega) (by omega)
        exact Or.inr ⟨fun post hp => br_f h0 (br_f h2 (br_f h3 (br_t h4 (And.intro qp_n16 (And.intro qp_n16 (br_t h5 hp)))))), fun post a b c hp => br_f h0 (br_f h2 (br_f h3 (br_t h4 (And.intro qp_n16 (And.intro qp_n16 (br_t h5 hp))))))⟩
theorem qp_frx {x y : Nat} (hx : x < 256) (hy : y < 256) (hq : x / 16 ≤ y / 16) (hr : x % 16 ≤ y % 16) {post : Int32 → Prop} (h : post 1) : wpX_isRectangle post (nI x) (nI y) := by
  have h5 : ¬ nI y / 16 < nI x / 16 := by
    rw [qp_d16 (by omega), qp_d16 (by omega)]
    exact nI_nlt hq (by omega)
  have h6 : ¬ (nI y - nI y / 16 * 16) < (nI x - nI x / 16 * 16) := by
    rw [qp_r16 (by omega), qp_r16 (by omega)]
    exact nI_nlt (by omega) (by omega)
  exact br_f (nI_pos (by omega)) (br_f (nI_nlt (a := 255) (by omega) (by decide)) (br_f (nI_pos (by omega)) (br_t (nI_le (b := 255) (by omega) (by decide)) (And.intro qp_n16 (And.intro qp_n16 (br_f h5 (And.intro qp_n16 (And.intro qp_n16 (br_f h6 h)))))))))
theorem qp_fry {x y : Nat} (hx : x < 256) (hy : y < 256) (hq : x / 16 ≤ y / 16) (hr : x % 16 ≤ y % 16) {post : Int32 → Prop} {a b c : Nat → Int32} (h : post 0) : wpY_badFrame post (a, b, c) (nI x) (nI y) := by
  have h5 : ¬ nI y / 16 < nI x / 16 := by
    rw [qp_d16 (by omega), qp_d16 (by omega)]
    exact nI_nlt hq (by omega)
  have h6 : (nI x - nI x / 16 * 16) ≤ (nI y - nI y / 16 * 16) := by
    rw [qp_r16 (by omega), qp_r16 (by omega)]
    exact nI_le (by omega) (by omega)
  exact br_f (nI_pos (by omega)) (br_f (nI_nlt (a := 255) (by omega) (by decide)) (br_f (nI_pos (by omega)) (br_t (nI_le (b := 255) (by omega) (by decide)) (And.intro qp_n16 (And.intro qp_n16 (br_f h5 (And.intro qp_n16 (And.intro qp_n16 (br_t h6 h)))))))))
/-- k lies in the frame -/
def qp_ins (lo hi k : Nat) : Prop := lo / 16 ≤ k / 16 ∧ k / 16 ≤ hi / 16 ∧ lo % 16 ≤ k % 16 ∧ k % 16 ≤ hi % 16
theorem qp_insy {k lo hi : Nat} (hk : k < 256) (hl : lo < 256) (hh : hi < 256) {post : Int32 → Prop} {a b c : Nat → Int32} (h1 : qp_ins lo hi k → post 1) (h0 : ¬ qp_ins lo hi k → post 0) : wpY_inside post (a, b, c) (nI k) (nI lo) (nI hi) := by
  refine And.intro qp_n16 (And.intro qp_n16 (pk_lt (k / 16) (lo / 16) (fun z => h0 (fun q => ?_)) (fun z1 => And.intro qp_n16 (And.intro qp_n16 (pk_lt (hi / 16) (k / 16) (fun z => h0 (fun q => ?_)) (fun z2 => And.intro qp_n16 (And.intro qp_n16 (pk_lt (k % 16) (lo % 16) (fun z => h0 (fun q => ?_)) (fun z3 => And.intro qp_n16 (And.intro qp_n16 (pk_lt (hi % 16) (k % 16) (fun z => h0 (fun q => ?_)) (fun z4 => h1 ⟨z1, z2, z3, z4⟩) (qp_r16 (by omega)) (qp_r16 (by omega))))) (qp_r16 (by omega)) (qp_r16 (by omega))))) (qp_d16 (by omega)) (qp_d16 (by omega))))) (qp_d16 (by omega)) (qp_d16 (by omega))))
  · unfold qp_ins at q; omega
  · unfold qp_ins at q; omega
  · unfold qp_ins at q; omega
  · unfold qp_ins at q; omega
/-- the sum that a count in a frame is -/
noncomputable def qp_g (f : Nat → Int32) (p lo hi k : Nat) : Nat := if lo / 16 ≤ k / 16 ∧ k / 16 ≤ hi / 16 ∧ lo % 16 ≤ k % 16 ∧ k % 16 ≤ hi % 16 then qp_w (f (256 * p + k)) else 0
theorem qp_g_in {f : Nat → Int32} {p lo hi k : Nat} (h : qp_ins lo hi k) : qp_g f p lo hi k = qp_w (f (256 * p + k)) := if_pos h
theorem qp_g_out {f : Nat → Int32} {p lo hi k : Nat} (h : ¬ qp_ins lo hi k) : qp_g f p lo hi k = 0 := if_neg h
/-- X's inner counting loop -/
theorem qp_c24 {post : Int32 → Prop} {J : Int32 → Int32 → Prop} {f d l : Nat → Int32} {p lo hi x : Nat} (hp : p < 3) (hl : lo < 256) (hh : hi < 256) (hx1 : lo / 16 ≤ x) (hx2 : x ≤ hi / 16) (hr : lo % 16 ≤ hi % 16) (h : J (nI (qp_s (qp_g f p lo hi) (16 * x + (hi % 16 + 1)))) (nI (x + 1))) :
    ∃ n, wX_countIn_24 post J (nI p) (nI lo) (nI hi) (nI x) f d l n (nI (qp_s (qp_g f p lo hi) (16 * x + lo % 16))) (nI (lo % 16)) := by
  refine qp_le (fun n y => wX_countIn_24 post J (nI p) (nI lo) (nI hi) (nI x) f d l n (nI (qp_s (qp_g f p lo hi) (16 * x + y))) (nI y)) (lo % 16) (hi % 16 + 1) (by omega) ?_ ?_
  · intro n
    refine And.intro qp_n16 (br_t ?_ (nm_r (nI_1 x) h))
    rw [qp_r16 (by omega)]
    exact nI_lt (by omega) (by omega)
  · intro n y h1 h2 W
    have hb : ¬ (nI hi - nI hi / 16 * 16) < nI y := by
      rw [qp_r16 (by omega)]
      exact nI_nlt (by omega) (by omega)
    have ei : (256 * nI p + 16 * nI x + nI y).toNatClampNeg = 256 * p + (16 * x + y) := by
      rw [qp_i2, nI_clamp (by omega)]; omega
    have eg : qp_s (qp_g f p lo hi) (16 * x + (y + 1)) = qp_s (qp_g f p lo hi) (16 * x + y) + qp_w (f (256 * p + (16 * x + y))) := by
      rw [← Nat.add_assoc, qp_s1, qp_g_in]
      unfold qp_ins; omega
    refine And.intro qp_n16 (br_f hb (And.intro ?_ ?_))
    · rw [qp_i2]; exact vp_in_nI (by omega) (by decide)
    · rw [ei]
      refine br_c (fun z => nm_r (nI_1 y) ?_) (fun z => nm_r (nI_1 _) (nm_r (nI_1 y) ?_))
      · rw [eg, qp_w0 z] at W; exact W
      · rw [eg, qp_w1 z] at W; exact W
theorem qp_cx {post : Int32 → Prop} {f d l : Nat → Int32} {p lo hi : Nat} (hp : p < 3) (hl : lo < 256) (hh : hi < 256) (hq : lo / 16 ≤ hi / 16) (hr : lo % 16 ≤ hi % 16) (h : post (nI (qp_s (qp_g f p lo hi) 256))) :
    wpX_countIn post (f, d, l) (nI p) (nI lo) (nI hi) := by
  refine And.intro qp_n16 (nm_r (qp_d16 (by omega)) ?_)
  have key : ∃ n, wX_countIn_9 post (nI p) (nI lo) (nI hi) f d l n (nI (qp_s (qp_g f p lo hi) (16 * (lo / 16)))) (nI (lo / 16)) := by
    refine qp_le (fun n x => wX_countIn_9 post (nI p) (nI lo) (nI hi) f d l n (nI (qp_s (qp_g f p lo hi) (16 * x))) (nI x)) (lo / 16) (hi / 16 + 1) (by omega) ?_ ?_
    · intro n
      refine And.intro qp_n16 (br_t ?_ ?_)
      · rw [qp_d16 (by omega)]; exact nI_lt (by omega) (by omega)
      · rw [qp_s_skip (a := 16 * (hi / 16 + 1)) (b := 256) (by omega) (fun k h1 h2 => qp_g_out (by unfold qp_ins; omega))] at h
        exact h
    · intro n x h1 h2 W
      refine And.intro qp_n16 (br_f ?_ (And.intro qp_n16 (nm_r (qp_r16 (by omega)) ?_)))
      · rw [qp_d16 (by omega)]; exact nI_nlt (by omega) (by omega)
      · have e1 : qp_s (qp_g f p lo hi) (16 * x + lo % 16) = qp_s (qp_g f p lo hi) (16 * x) := qp_s_skip (by omega) (fun k h1 h2 => qp_g_out (by unfold qp_ins; omega))
        have e2 : qp_s (qp_g f p lo hi) (16 * (x + 1)) = qp_s (qp_g f p lo hi) (16 * x + (hi % 16 + 1)) := qp_s_skip (by omega) (fun k h1 h2 => qp_g_out (by unfold qp_ins; omega))
        rw [← e1]
        refine qp_c24 hp hl hh h1 (by omega) hr ?_
        rw [← e2]; exact W
  have e0 : qp_s (qp_g f p lo hi) (16 * (lo / 16)) = 0 := by
    rw [qp_s_skip (a := 0) (b := 16 * (lo / 16)) (by omega) (fun k h1 h2 => qp_g_out (by unfold qp_ins; omega))]; rfl
  rw [e0] at key
  exact key
/-- the number of set points -/
def qp_n (f : Nat → Int32) (p : Nat) : Nat := qp_s (fun k => qp_w (f (256 * p + k))) 256
theorem qp_cxa {post : Int32 → Prop} {f d l : Nat → Int32} {p : Nat} (hp : p < 3) (h : post (nI (qp_n f p))) : wpX_countIn post (f, d, l) (nI p) 0 255 := by
  refine qp_cx (lo := 0) (hi := 255) hp (by decide) (by decide) (by decide) (by decide) ?_
  rw [qp_s_congr (h := fun k => qp_w (f (256 * p + k))) 256 (fun k hk => qp_g_in (by unfold qp_ins; omega))]
  exact h
theorem qp_cy {post : Int32 → Prop} {f d l : Nat → Int32} {p : Nat} (hp : p < 3) (h : post (nI (qp_n f p))) : wpY_count post (f, d, l) (nI p) := by
  refine qp_le (fun n i => wY_count_4 post (nI p) f d l n (nI (qp_s (fun k => qp_w (f (256 * p + k))) i)) (nI i)) 0 256 (by omega) ?_ ?_
  · intro n
    exact br_t (nI_le (a := 256) (by omega) (by decide)) h
  · intro n i h1 h2 W
    refine br_f (nI_ge (b := 256) h2 (by decide)) (And.intro ?_ ?_)
    · rw [qp_i1]; exact vp_in_nI (by omega) (by decide)
    · rw [qp_i1, nI_clamp (by omega)]
      rw [qp_s1] at W
      refine br_c (fun z => nm_r (nI_1 i) ?_) (fun z => nm_r (nI_1 _) (nm_r (nI_1 i) ?_))
      · rw [qp_w0 z] at W; exact W
      · rw [qp_w1 z] at W; exact W
theorem qp_cyi {post : Int32 → Prop} {f d l : Nat → Int32} {p lo hi : Nat} (hp : p < 3) (hl : lo < 256) (hh : hi < 256) (h : post (nI (qp_s (qp_g f p lo hi) 256))) : ∃ n, wY_areaIn_28 post (nI p) (nI lo) (nI hi) f d l n 0 0 := by
  refine qp_le (fun n i => wY_areaIn_28 post (nI p) (nI lo) (nI hi) f d l n (nI (qp_s (qp_g f p lo hi) i)) (nI i)) 0 256 (by omega) ?_ ?_
  · intro n
    exact br_t (nI_le (a := 256) (by omega) (by decide)) h
  · intro n i h1 h2 W
    refine br_f (nI_ge (b := 256) h2 (by decide)) (qp_insy h2 hl hh ?_ ?_)
    · intro hi
      refine br_f qp_10 (And.intro ?_ ?_)
      · rw [qp_i1]; exact vp_in_nI (by omega) (by decide)
      · rw [qp_i1, nI_clamp (by omega)]
        rw [qp_s1, qp_g_in hi] at W
        refine br_c (fun z => nm_r (nI_1 i) ?_) (fun z => nm_r (nI_1 _) (nm_r (nI_1 i) ?_))
        · rw [qp_w0 z] at W; exact W
        · rw [qp_w1 z] at W; exact W
    · intro hi
      refine br_t rfl (nm_r (nI_1 i) ?_)
      rw [qp_s1, qp_g_out hi] at W
      exact W
end
