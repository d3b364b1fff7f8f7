/-! even blocks, tiles and their counts -/
abbrev qp_E (f : Nat → Int32) (p x y s : Nat) : Prop := ∀ i, i < s → ∀ j, j < s → f (256 * p + (16 * (x / s * s + i) + (y / s * s + j))) = f (256 * p + (16 * (x / s * s) + y / s * s))
theorem qp_bs : ∀ x, x < 16 → ∀ t, t < 5 → nI x &&& (-(nI (2 ^ t))) = nI (x / 2 ^ t * 2 ^ t) := by decide +kernel
theorem qp_2t : ∀ t, t < 5 → (1 : Int32) <<< (nI t &&& 31) = nI (2 ^ t) := by decide +kernel
theorem qp_st {t x : Nat} (ht : t < 5) (hx : x < 16) : x / 2 ^ t * 2 ^ t + 2 ^ t ≤ 16 := by
  have h : t = 0 ∨ t = 1 ∨ t = 2 ∨ t = 3 ∨ t = 4 := by omega
  rcases h with rfl | rfl | rfl | rfl | rfl <;> simp only [Nat.reducePow] <;> omega
theorem qp_p2 {t : Nat} (ht : t < 5) : 0 < 2 ^ t ∧ 2 ^ t ≤ 16 := by
  have h : t = 0 ∨ t = 1 ∨ t = 2 ∨ t = 3 ∨ t = 4 := by omega
  rcases h with rfl | rfl | rfl | rfl | rfl <;> decide
/-- the points of a block -/
def qp_o (lo hi k : Nat) : Nat := if lo / 16 ≤ k / 16 ∧ k / 16 ≤ hi / 16 ∧ lo % 16 ≤ k % 16 ∧ k % 16 ≤ hi % 16 then 1 else 0
theorem qp_sq1 : ∀ a, a < 8 → ∀ b, b < 8 → qp_s (qp_o (16 * (a * 2) + b * 2) (16 * (a * 2) + b * 2 + 17 * (2 - 1))) 256 = 2 * 2 := by decide +kernel
theorem qp_sq2 : ∀ a, a < 4 → ∀ b, b < 4 → qp_s (qp_o (16 * (a * 4) + b * 4) (16 * (a * 4) + b * 4 + 17 * (4 - 1))) 256 = 4 * 4 := by decide +kernel
theorem qp_sq3 : ∀ a, a < 2 → ∀ b, b < 2 → qp_s (qp_o (16 * (a * 8) + b * 8) (16 * (a * 8) + b * 8 + 17 * (8 - 1))) 256 = 8 * 8 := by decide +kernel
theorem qp_sq4 : ∀ a, a < 1 → ∀ b, b < 1 → qp_s (qp_o (16 * (a * 16) + b * 16) (16 * (a * 16) + b * 16 + 17 * (16 - 1))) 256 = 16 * 16 := by decide +kernel
theorem qp_sq {t x y : Nat} (ht : t < 5) (h0 : 0 < t) (hx : x < 16) (hy : y < 16) : qp_s (qp_o (16 * (x / 2 ^ t * 2 ^ t) + y / 2 ^ t * 2 ^ t) (16 * (x / 2 ^ t * 2 ^ t) + y / 2 ^ t * 2 ^ t + 17 * (2 ^ t - 1))) 256 = 2 ^ t * 2 ^ t := by
  have h : t = 1 ∨ t = 2 ∨ t = 3 ∨ t = 4 := by omega
  rcases h with rfl | rfl | rfl | rfl
  · exact qp_sq1 (x / 2) (by omega) (y / 2) (by omega)
  · exact qp_sq2 (x / 4) (by omega) (y / 4) (by omega)
  · exact qp_sq3 (x / 8) (by omega) (y / 8) (by omega)
  · exact qp_sq4 (x / 16) (by omega) (y / 16) (by omega)
theorem qp_s0 (n : Nat) : qp_s (fun _ => 0) n = 0 := by
  induction n with
  | zero => rfl
  | succ n ih => rw [qp_s1, ih]
theorem qp_g_le {f : Nat → Int32} {p lo hi k : Nat} : qp_g f p lo hi k ≤ qp_o lo hi k := by
  unfold qp_g qp_o
  split
  · unfold qp_w; split <;> omega
  · exact Nat.le_refl _
theorem qp_g_1 {f : Nat → Int32} {p lo hi k : Nat} (h : qp_ins lo hi k) (e : qp_g f p lo hi k = qp_o lo hi k) : ¬ f (256 * p + k) = 0 := by
  rw [qp_g_in h] at e
  intro z
  rw [qp_w0 z] at e
  have : qp_o lo hi k = 1 := if_pos h
  omega
theorem qp_Ec {f : Nat → Int32} {p a b s : Nat} (hf : qp_B f) (hs : 0 < s) (ha : a + s ≤ 16) (hb : b + s ≤ 16) (hc : qp_s (qp_o (16 * a + b) (16 * a + b + 17 * (s - 1))) 256 = s * s) :
    (qp_s (qp_g f p (16 * a + b) (16 * a + b + 17 * (s - 1))) 256 = 0 ∨ qp_s (qp_g f p (16 * a + b) (16 * a + b + 17 * (s - 1))) 256 = s * s) ↔ (∀ i, i < s → ∀ j, j < s → f (256 * p + (16 * (a + i) + (b + j))) = f (256 * p + (16 * a + b))) := by
  have hin : ∀ i, i < s → ∀ j, j < s → qp_ins (16 * a + b) (16 * a + b + 17 * (s - 1)) (16 * (a + i) + (b + j)) := by
    intro i hi j hj; unfold qp_ins; omega
  constructor
  · intro h i hi j hj
    rcases h with h | h
    · have z : ∀ k, k < 256 → 0 = qp_g f p (16 * a + b) (16 * a + b + 17 * (s - 1)) k := qp_s_eq (g := fun _ => 0) 256 (fun k _ => Nat.zero_le _) (by rw [qp_s0, h])
      have zz : ∀ i, i < s → ∀ j, j < s → f (256 * p + (16 * (a + i) + (b + j))) = 0 := by
        intro i hi j hj
        have q := z (16 * (a + i) + (b + j)) (by omega)
        rw [qp_g_in (hin i hi j hj)] at q
        unfold qp_w at q
        split at q
        · assumption
        · omega
      have z0 := zz 0 hs 0 hs
      rw [Nat.add_zero, Nat.add_zero] at z0
      rw [zz i hi j hj, z0]
    · have z : ∀ k, k < 256 → qp_g f p (16 * a + b) (16 * a + b + 17 * (s - 1)) k = qp_o (16 * a + b) (16 * a + b + 17 * (s - 1)) k := qp_s_eq 256 (fun k _ => qp_g_le) (by rw [h, hc])
      have zz : ∀ i, i < s → ∀ j, j < s → f (256 * p + (16 * (a + i) + (b + j))) = 1 := by
        intro i hi j hj
        have q := qp_g_1 (hin i hi j hj) (z (16 * (a + i) + (b + j)) (by omega))
        rcases hf (256 * p + (16 * (a + i) + (b + j))) with h0 | h0
        · exact absurd h0 q
        · exact h0
      have z0 := zz 0 hs 0 hs
      rw [Nat.add_zero, Nat.add_zero] at z0
      rw [zz i hi j hj, z0]
  · intro h
    have hk : ∀ k, k < 256 → qp_ins (16 * a + b) (16 * a + b + 17 * (s - 1)) k → f (256 * p + k) = f (256 * p + (16 * a + b)) := by
      intro k hk hi
      unfold qp_ins at hi
      have q := h (k / 16 - a) (by omega) (k % 16 - b) (by omega)
      rw [show 16 * (a + (k / 16 - a)) + (b + (k % 16 - b)) = k by omega] at q
      exact q
    by_cases c : f (256 * p + (16 * a + b)) = 0
    · refine Or.inl ?_
      rw [qp_s_congr (h := fun _ => 0) 256, qp_s0]
      intro k hk'
      by_cases hi : qp_ins (16 * a + b) (16 * a + b + 17 * (s - 1)) k
      · rw [qp_g_in hi, hk k hk' hi, qp_w0 c]
      · rw [qp_g_out hi]
    · refine Or.inr ?_
      rw [← hc]
      refine qp_s_congr 256 ?_
      intro k hk'
      by_cases hi : qp_ins (16 * a + b) (16 * a + b + 17 * (s - 1)) k
      · rw [qp_g_in hi, hk k hk' hi, qp_w1 c]
        exact (if_pos hi).symm
      · rw [qp_g_out hi]
        exact (if_neg hi).symm
theorem qp_evx {post : Int32 → Prop} {f d l : Nat → Int32} {p x y t : Nat} (hf : qp_B f) (hp : p < 3) (hx : x < 16) (hy : y < 16) (ht : t < 5) (h0t : 0 < t) (h1 : qp_E f p x y (2 ^ t) → post 1) (h0 : ¬ qp_E f p x y (2 ^ t) → post 0) : wpX_isEvenBlock post (f, d, l) (nI p) (nI x) (nI y) (nI (2 ^ t)) := by
  have hs := qp_p2 ht
  have ha := qp_st ht hx
  have hb := qp_st ht hy
  have hc : qp_s (qp_o (16 * (x / 2 ^ t * 2 ^ t) + y / 2 ^ t * 2 ^ t) (16 * (x / 2 ^ t * 2 ^ t) + y / 2 ^ t * 2 ^ t + 17 * (2 ^ t - 1))) 256 = 2 ^ t * 2 ^ t := qp_sq ht h0t hx hy
  have hE := qp_Ec (p := p) hf hs.1 ha hb hc
  have hbd : qp_s (qp_g f p (16 * (x / 2 ^ t * 2 ^ t) + y / 2 ^ t * 2 ^ t) (16 * (x / 2 ^ t * 2 ^ t) + y / 2 ^ t * 2 ^ t + 17 * (2 ^ t - 1))) 256 ≤ 2 ^ t * 2 ^ t := by
    rw [← hc]; exact qp_s_le 256 (fun k _ => qp_g_le)
  have hm : 2 ^ t * 2 ^ t ≤ 16 * 16 := Nat.mul_le_mul hs.2 hs.2
  unfold wpX_isEvenBlock wpX_blockStart
  dsimp only
  rw [qp_bs x hx t ht, qp_bs y hy t ht, qp_i3]
  have hbx : qp_E f p x y (2 ^ t) ↔ _ := hE.symm
  unfold qp_E at h1 h0
  rw [← hE] at h1 h0
  generalize x / 2 ^ t * 2 ^ t = a at *
  generalize y / 2 ^ t * 2 ^ t = b at *
  generalize 2 ^ t = s at *
  refine nm_e (nm_r (e' := nI (16 * a + b + 17 * (s - 1))) ?_ ?_)
  · rw [show (17 : Int32) = nI 17 from rfl, show (1 : Int32) = nI 1 from rfl, pk_sub (by omega), pk_mul, nI_add]
  · refine qp_cx hp (by omega) (by omega) (by omega) (by omega) ?_
    rw [pk_mul]
    refine pk_eq _ 0 (fun z => h1 (Or.inl z)) (fun z => ?_) rfl rfl (by omega) (by omega)
    exact pk_eq _ _ (fun z' => h1 (Or.inr z')) (fun z' => h0 (fun q => q.elim z z')) rfl rfl (by omega) (by omega)
/-- a tile's side -/
def qp_ts (f : Nat → Int32) (p x y : Nat) : Nat := if qp_E f p x y 16 then 16 else if qp_E f p x y 8 then 8 else if qp_E f p x y 4 then 4 else if qp_E f p x y 2 then 2 else 1
theorem qp_ts2 (f : Nat → Int32) (p x y : Nat) : ∃ t, t < 5 ∧ qp_ts f p x y = 2 ^ t := by
  unfold qp_ts
  split
  · exact ⟨4, by decide, rfl⟩
  split
  · exact ⟨3, by decide, rfl⟩
  split
  · exact ⟨2, by decide, rfl⟩
  split
  · exact ⟨1, by decide, rfl⟩
  · exact ⟨0, by decide, rfl⟩
theorem qp_lv {post : Int32 → Prop} {f d l : Nat → Int32} {p x y t n : Nat} (hf : qp_B f) (hp : p < 3) (hx : x < 16) (hy : y < 16) (ht : t < 4) (h1 : qp_E f p x y (2 ^ (t + 1)) → post (nI (2 ^ (t + 1)))) (h0 : ¬ qp_E f p x y (2 ^ (t + 1)) → wX_tileSize_3 post (nI p) (nI x) (nI y) f d l n (nI t)) : wX_tileSize_3 post (nI p) (nI x) (nI y) f d l (n + 1) (nI (t + 1)) := by
  refine br_f (nI_nle (by omega) (by omega)) (nm_r (qp_2t (t + 1) (by omega)) ?_)
  exact qp_evx hf hp hx hy (by omega) (by omega) (fun e => br_f qp_10 (h1 e)) (fun e => br_t rfl (nm_r (pk_m1 t) (h0 e)))
theorem qp_tsx {post : Int32 → Prop} {f d l : Nat → Int32} {p x y : Nat} (hf : qp_B f) (hp : p < 3) (hx : x < 16) (hy : y < 16) (h : post (nI (qp_ts f p x y))) : wpX_tileSize post (f, d, l) (nI p) (nI x) (nI y) := by
  refine ⟨5, ?_⟩
  unfold qp_ts at h
  refine qp_lv (t := 3) hf hp hx hy (by decide) (fun e => ?_) (fun e4 => ?_)
  · rw [if_pos e] at h; exact h
  rw [if_neg e4] at h
  refine qp_lv (t := 2) hf hp hx hy (by decide) (fun e => ?_) (fun e3 => ?_)
  · rw [if_pos e] at h; exact h
  rw [if_neg e3] at h
  refine qp_lv (t := 1) hf hp hx hy (by decide) (fun e => ?_) (fun e2 => ?_)
  · rw [if_pos e] at h; exact h
  rw [if_neg e2] at h
  refine qp_lv (t := 0) hf hp hx hy (by decide) (fun e => ?_) (fun e1 => ?_)
  · rw [if_pos e] at h; exact h
  rw [if_neg e1] at h
  exact br_t (by decide) h
theorem qp_evy {post : Int32 → Prop} {f d l : Nat → Int32} {p a b s : Nat} (hp : p < 3) (ha : a + s ≤ 16) (hb : b + s ≤ 16) (h1 : (∀ i, i < s → ∀ j, j < s → f (256 * p + (16 * (a + i) + (b + j))) = f (256 * p + (16 * a + b))) → post 1) (h0 : ¬ (∀ i, i < s → ∀ j, j < s → f (256 * p + (16 * (a + i) + (b + j))) = f (256 * p + (16 * a + b))) → post 0) : wpY_even post (f, d, l) (nI p) (nI a) (nI b) (nI s) := by
  have key : ∃ n, (∀ i', i' < 0 → ∀ j, j < s → f (256 * p + (16 * (a + i') + (b + j))) = f (256 * p + (16 * a + b))) → wY_even_3 post (nI p) (nI a) (nI b) (nI s) f d l n (nI 0) := by
    refine qp_le (fun n i => (∀ i', i' < i → ∀ j, j < s → f (256 * p + (16 * (a + i') + (b + j))) = f (256 * p + (16 * a + b))) → wY_even_3 post (nI p) (nI a) (nI b) (nI s) f d l n (nI i)) 0 s (by omega) ?_ ?_
    · intro n hI
      exact br_t (nI_le (Nat.le_refl s) (by omega)) (h1 hI)
    · intro n i _ hi W hI
      refine br_f (nI_ge hi (by omega)) ?_
      have key2 : ∃ m, (∀ j', j' < 0 → f (256 * p + (16 * (a + i) + (b + j'))) = f (256 * p + (16 * a + b))) → wY_even_13 post (wY_even_3 post (nI p) (nI a) (nI b) (nI s) f d l n) (nI p) (nI a) (nI b) (nI s) (nI i) f d l m (nI 0) := by
        refine qp_le (fun m j => (∀ j', j' < j → f (256 * p + (16 * (a + i) + (b + j'))) = f (256 * p + (16 * a + b))) → wY_even_13 post (wY_even_3 post (nI p) (nI a) (nI b) (nI s) f d l n) (nI p) (nI a) (nI b) (nI s) (nI i) f d l m (nI j)) 0 s (by omega) ?_ ?_
        · intro m hJ
          refine br_t (nI_le (Nat.le_refl s) (by omega)) (nm_r (nI_1 i) (W ?_))
          intro i' hi' j hj
          by_cases e : i' = i
          · subst e; exact hJ j hj
          · exact hI i' (by omega) j hj
        · intro m j _ hj V hJ
          have e1 : 256 * nI p + 16 * (nI a + nI i) + nI b + nI j = nI (256 * p + (16 * (a + i) + (b + j))) := by
            rw [nI_add, qp_i2, nI_add]
            exact congrArg nI (by omega)
          have e2 : 256 * nI p + 16 * nI a + nI b = nI (256 * p + (16 * a + b)) := by
            rw [qp_i2, Nat.add_assoc]
          refine br_f (nI_ge hj (by omega)) ?_
          rw [e1, e2]
          refine And.intro (vp_in_nI (by omega) (by decide)) (And.intro (vp_in_nI (by omega) (by decide)) ?_)
          rw [nI_clamp (by omega), nI_clamp (by omega)]
          refine br_c (fun z => nm_r (nI_1 j) (V ?_)) (fun z => h0 (fun q => z (q i hi j hj)))
          intro j' hj'
          by_cases e : j' = j
          · subst e; exact z
          · exact hJ j' (by omega)
      obtain ⟨m, hm⟩ := key2
      exact ⟨m, hm (fun _ h => absurd h (Nat.not_lt_zero _))⟩
  obtain ⟨n, hn⟩ := key
  exact ⟨n, hn (fun _ h => absurd h (Nat.not_lt_zero _))⟩
theorem qp_ly {post : Int32 → Prop} {f d l : Nat → Int32} {p x y t n : Nat} {c : Int32} (hp : p < 3) (hx : x < 16) (hy : y < 16) (ht : t < 5) (h1 : qp_E f p x y (2 ^ t) → wY_tileSize_6 post (nI p) (nI x) (nI y) f d l n (nI (2 ^ t)) (nI (2 ^ (t + 1)))) (h0 : ¬ qp_E f p x y (2 ^ t) → wY_tileSize_6 post (nI p) (nI x) (nI y) f d l n c (nI (2 ^ (t + 1)))) : wY_tileSize_6 post (nI p) (nI x) (nI y) f d l (n + 1) c (nI (2 ^ t)) := by
  have hs := qp_p2 ht
  have ha := qp_st ht hx
  have hb := qp_st ht hy
  have hz : ¬ nI (2 ^ t) = 0 := nI_ne0 hs.1 (by omega)
  have e2 : 2 * nI (2 ^ t) = nI (2 ^ (t + 1)) := by
    rw [show (2 : Int32) = nI 2 from rfl, pk_mul, Nat.pow_succ, Nat.mul_comm]
  refine br_f (nI_ge (b := 17) (by omega) (by decide)) (And.intro hz (And.intro hz ?_))
  rw [pk_div (by omega) hs.1 (by omega), pk_div (by omega) hs.1 (by omega), pk_mul, pk_mul]
  exact qp_evy hp ha hb (fun e => br_f qp_10 (nm_r e2 (h1 e))) (fun e => br_t rfl (nm_r e2 (h0 e)))
theorem qp_tsy {post : Int32 → Prop} {f d l : Nat → Int32} {p x y : Nat} (hp : p < 3) (hx : x < 16) (hy : y < 16) (h : post (nI (qp_ts f p x y))) : wpY_tileSize post (f, d, l) (nI p) (nI x) (nI y) := by
  have F : ∀ c : Int32, c = nI (qp_ts f p x y) → wY_tileSize_6 post (nI p) (nI x) (nI y) f d l 1 c (nI (2 ^ (4 + 1))) := by
    intro c hc
    rw [hc]
    exact br_t (by decide) h
  unfold qp_ts at F
  refine ⟨5, ?_⟩
  refine qp_ly (t := 1) hp hx hy (by decide) (fun e1 => ?_) (fun e1 => ?_) <;> refine qp_ly (t := 2) hp hx hy (by decide) (fun e2 => ?_) (fun e2 => ?_) <;> refine qp_ly (t := 3) hp hx hy (by decide) (fun e3 => ?_) (fun e3 => ?_) <;> refine qp_ly (t := 4) hp hx hy (by decide) (fun e4 => ?_) (fun e4 => ?_)
  all_goals
    refine F _ ?_
    first
      | (rw [if_pos e4]; done)
      | (rw [if_neg e4, if_pos e3]; done)
      | (rw [if_neg e4, if_neg e3, if_pos e2]; done)
      | (rw [if_neg e4, if_neg e3, if_neg e2, if_pos e1]; done)
      | (rw [if_neg e4, if_neg e3, if_neg e2, if_neg e1]; done)
      | (rw [if_neg e4, if_neg e3, if_neg e2, if_neg e1]; rfl)
      | (rw [if_pos e4]; rfl)
      | (rw [if_neg e4, if_pos e3]; rfl)
      | (rw [if_neg e4, if_neg e3, if_pos e2]; rfl)
      | (rw [if_neg e4, if_neg e3, if_neg e2, if_pos e1]; rfl)
