/-! turn, shift, zoom: drawn on a draft, or out of a held picture -/
theorem qp_isx {post : Int32 → Prop} {f d l : Nat → Int32} {p x y : Nat} (hf : qp_B f) (hp : p < 3) (hx : x < 16) (hy : y < 16) (h : post (f (256 * p + (16 * x + y)))) : wpX_isSet post (f, d, l) (nI p) (nI x) (nI y) := by
  refine And.intro (qp_v2 hp hx hy) ?_
  rw [qp_e2 hp hx hy]
  exact And.intro (qp_nn (hf _)) h
/-- where a turn brings a point, and where it came from -/
def qp_t (kd k : Nat) : Nat := if kd = 0 then 16 * (k % 16) + (15 - k / 16) else if kd = 1 then 16 * (15 - k / 16) + k % 16 else 16 * (k % 16) + k / 16
def qp_ti (kd m : Nat) : Nat := if kd = 0 then 16 * (15 - m % 16) + m / 16 else if kd = 1 then 16 * (15 - m / 16) + m % 16 else 16 * (m % 16) + m / 16
theorem qp_tk {kd k m : Nat} (hk : k < 256) (hm : m < 256) : qp_ti kd m = k ↔ m = qp_t kd k := by
  unfold qp_ti qp_t
  split
  · omega
  · split <;> omega
theorem qp_ti_lt {kd m : Nat} (hm : m < 256) : qp_ti kd m < 256 := by
  unfold qp_ti
  split
  · omega
  · split <;> omega
theorem qp_t_lt {kd m : Nat} (hm : m < 256) : qp_t kd m < 256 := by
  unfold qp_t
  split
  · omega
  · split <;> omega
def qp_tr (kd m : Nat) : Nat := if m < 256 then qp_ti kd m else 256
theorem qp_trk {kd k : Nat} (hk : k < 256) (m : Nat) : qp_tr kd m = k ↔ m = qp_t kd k := by
  unfold qp_tr
  have := qp_t_lt (kd := kd) hk
  by_cases h : m < 256
  · rw [if_pos h]; exact qp_tk hk h
  · rw [if_neg h]; omega
def qp_D (kd p : Nat) (f d : Nat → Int32) (k : Nat) : Nat → Int32 := qp_a d (fun m => f (256 * p + qp_ti kd m)) (qp_tr kd) k
theorem qp_D_st {kd p : Nat} {f d : Nat → Int32} {k : Nat} (hk : k < 256) : upd (qp_D kd p f d k) (qp_t kd k) (f (256 * p + k)) = qp_D kd p f d (k + 1) :=
  qp_a_st (qp_trk hk) (by rw [(qp_tk hk (qp_t_lt hk)).mpr rfl])
theorem qp_D_in {kd p : Nat} {f d : Nat → Int32} {m : Nat} (hm : m < 256) : qp_D kd p f d 256 m = f (256 * p + qp_ti kd m) :=
  qp_a_wr (by unfold qp_tr; rw [if_pos hm]; exact qp_ti_lt hm)
theorem qp_15 {x : Nat} (hx : x < 16) : (15 : Int32) - nI x = nI (15 - x) := pk_sub (a := 15) (by omega)
theorem qp_tu32 {post : Int32 → SX → Prop} {J : Int32 → (Nat → Int32) → (Nat → Int32) → (Nat → Int32) → Prop} {f d l : Nat → Int32} {kd p x : Nat} (hk : kd < 3) (hp : p < 3) (hx : x < 16) (hf : qp_B f) (h : J (nI (x + 1)) f (qp_D kd p f d (16 * (x + 1))) l) :
    ∃ n, wX_turn_32 post J (nI kd) (nI p) (nI x) n 0 f (qp_D kd p f d (16 * x)) l := by
  refine qp_le (fun n y => wX_turn_32 post J (nI kd) (nI p) (nI x) n (nI y) f (qp_D kd p f d (16 * x + y)) l) 0 16 (by omega) ?_ ?_
  · intro n
    exact br_t qp_ge16 (nm_r (nI_1 x) h)
  · intro n y h1 h2 W
    have hkk : 16 * x + y < 256 := by omega
    have L : ∀ z5 z0 : Int32, 16 * z5 + z0 = nI (qp_t kd (16 * x + y)) → wX_turn_77 post J (wX_turn_32 post J (nI kd) (nI p) (nI x) n) (nI kd) (nI p) (nI x) (nI y) z5 z0 f (qp_D kd p f d (16 * x + y)) l := by
      intro z5 z0 e
      unfold wX_turn_77
      refine qp_isx hf hp hx h2 (And.intro ?_ ?_)
      · rw [e]; exact vp_in_nI (qp_t_lt hkk) (by decide)
      · rw [e, qp_e0 (qp_t_lt hkk), qp_nb (hf _)]
        exact nm_r (qp_D_st hkk) (nm_r (nI_1 y) W)
    refine br_f (qp_nge16 h2) ?_
    have ex : (16 * x + y) / 16 = x := by omega
    have ey : (16 * x + y) % 16 = y := by omega
    have hk' : kd = 0 ∨ kd = 1 ∨ kd = 2 := by omega
    rcases hk' with rfl | rfl | rfl
    · refine br_f (by decide) ?_
      unfold wX_turn_53
      exact br_t (by decide) (L _ _ (by rw [qp_15 hx, qp_i3]; simp [qp_t, ex, ey]))
    · refine br_t (by decide) ?_
      unfold wX_turn_53
      exact br_f (by decide) (br_t (by decide) (L _ _ (by rw [qp_15 hx, qp_i3]; simp [qp_t, ex, ey])))
    · refine br_f (by decide) ?_
      unfold wX_turn_53
      exact br_f (by decide) (br_f (by decide) (L _ _ (by rw [qp_i3]; simp [qp_t, ex, ey])))
/-- the turned picture -/
def qp_T (kd p : Nat) (f : Nat → Int32) : Nat → Int32 := qp_P p f (fun m => f (256 * p + qp_ti kd m)) 256
theorem qp_T_B {kd p : Nat} {f : Nat → Int32} (hf : qp_B f) : qp_B (qp_T kd p f) := qp_P_B hf (fun k _ => hf _)
theorem qp_turnx {post : Int32 → SX → Prop} {f d l : Nat → Int32} {kd p : Nat} (hk : kd < 3) (hp : p < 3) (hf : qp_B f) (h : ∀ D, wpX_countTiles (fun r => post r (qp_T kd p f, D, l)) (qp_T kd p f, D, l) (nI p) 1 16) :
    ∃ n, wX_turn_23 post (nI kd) (nI p) n 0 f d l := by
  refine qp_le (fun n x => wX_turn_23 post (nI kd) (nI p) n (nI x) f (qp_D kd p f d (16 * x)) l) 0 16 (by omega) ?_ ?_
  · intro n
    refine br_t qp_ge16 (qp_tx hp ?_ ?_)
    · intro k hk
      rw [qp_D_in hk]; exact hf _
    · rw [qp_P_eq (T' := fun m => f (256 * p + qp_ti kd m)) (fun k hk => qp_D_in hk)]
      exact h _
  · intro n x h1 h2 W
    exact br_f (qp_nge16 h2) (qp_tu32 hk hp h2 hf W)
def qp_yr (kd p j : Nat) : Nat := if 256 * p ≤ j ∧ j < 256 * p + 256 then qp_ti kd (j - 256 * p) else 256
theorem qp_yrk {kd p k : Nat} (hk : k < 256) (j : Nat) : qp_yr kd p j = k ↔ j = 256 * p + qp_t kd k := by
  unfold qp_yr
  have := qp_t_lt (kd := kd) hk
  by_cases h : 256 * p ≤ j ∧ j < 256 * p + 256
  · rw [if_pos h, qp_tk hk (by omega)]; omega
  · rw [if_neg h]; omega
def qp_Y (kd p : Nat) (f h : Nat → Int32) (k : Nat) : Nat → Int32 := qp_a f (fun j => h (qp_ti kd (j - 256 * p))) (qp_yr kd p) k
theorem qp_Y_st {kd p : Nat} {f h : Nat → Int32} {k : Nat} (hk : k < 256) : upd (qp_Y kd p f h k) (256 * p + qp_t kd k) (h k) = qp_Y kd p f h (k + 1) :=
  qp_a_st (qp_yrk hk) (by rw [Nat.add_sub_cancel_left, (qp_tk hk (qp_t_lt hk)).mpr rfl])
theorem qp_Y_T {kd p : Nat} {f h : Nat → Int32} (hh : ∀ k, k < 256 → h k = f (256 * p + k)) : qp_Y kd p f h 256 = qp_T kd p f := by
  refine qp_P_ext ?_ ?_
  · intro k hk
    unfold qp_Y
    rw [qp_a_wr, Nat.add_sub_cancel_left, hh _ (qp_ti_lt hk)]
    unfold qp_yr
    rw [if_pos (by omega), Nat.add_sub_cancel_left]
    exact qp_ti_lt hk
  · intro j hj
    unfold qp_Y
    rw [qp_a_rd]
    unfold qp_yr
    rw [if_neg hj]; omega
theorem qp_turny {post : Int32 → SY → Prop} {f h s : Nat → Int32} {kd p : Nat} (hk : kd < 3) (hp : p < 3) (hf : qp_B f) (hh : ∀ k, k < 256 → h k = f (256 * p + k)) (H : wpY_tally (fun r => post r (qp_T kd p f, h, s)) (qp_T kd p f, h, s) (nI p) 0) :
    ∃ n, wY_turn_29 post (nI kd) (nI p) n 0 f h s := by
  refine qp_le (fun n k => wY_turn_29 post (nI kd) (nI p) n (nI k) (qp_Y kd p f h k) h s) 0 256 (by omega) ?_ ?_
  · intro n
    refine br_t qp_ge256 ?_
    rw [qp_Y_T hh]
    exact H
  · intro n k h1 h2 W
    have L : ∀ z0 : Int32, z0 = nI (qp_t kd k) → wY_turn_93 post (wY_turn_29 post (nI kd) (nI p) n) (nI kd) (nI p) (nI k) z0 (qp_Y kd p f h k) h s := by
      intro z0 e
      unfold wY_turn_93
      rw [e]
      refine And.intro (vp_in_nI h2 (by decide)) (And.intro (qp_v1 hp (qp_t_lt h2)) ?_)
      rw [qp_e1 hp (qp_t_lt h2), qp_e0 h2, qp_nb (by rw [hh k h2]; exact hf _)]
      exact nm_r (qp_Y_st h2) (nm_r (nI_1 k) W)
    refine br_f (qp_nge h2) (And.intro qp_n16 (nm_r (qp_d16 (by omega)) (And.intro qp_n16 (nm_r (qp_r16 (by omega)) ?_))))
    have e15 : k / 16 < 16 := by omega
    have hk' : kd = 0 ∨ kd = 1 ∨ kd = 2 := by omega
    rcases hk' with rfl | rfl | rfl
    · refine br_t (by decide) (L _ ?_)
      rw [show (15 : Int32) = nI 15 from rfl, qp_i3, pk_sub (by omega)]
      refine congrArg nI ?_
      unfold qp_t
      rw [if_pos rfl]; omega
    · refine br_f (by decide) (br_t (by decide) (L _ ?_))
      rw [qp_15 e15, qp_i3]; simp [qp_t]
    · refine br_f (by decide) (br_f (by decide) (L _ ?_))
      rw [qp_i3]; simp [qp_t]
/-- a draft drawn in order -/
def qp_I (d T : Nat → Int32) (k : Nat) : Nat → Int32 := qp_a d T (fun m => m) k
theorem qp_I_st {d T : Nat → Int32} {k : Nat} : upd (qp_I d T k) k (T k) = qp_I d T (k + 1) := qp_a_st (fun j => Iff.rfl) rfl
theorem qp_I_in {d T : Nat → Int32} {m : Nat} (hm : m < 256) : qp_I d T 256 m = T m := qp_a_wr hm
/-- shift -/
def qp_sh (f : Nat → Int32) (p : Nat) (dx dy : Int32) (k : Nat) : Int32 :=
  if nI (k / 16) - dx < 0 then 0 else if 16 ≤ nI (k / 16) - dx then 0 else if nI (k % 16) - dy < 0 then 0 else if 16 ≤ nI (k % 16) - dy then 0
  else f (256 * p + (16 * (nI (k / 16) - dx).toNatClampNeg + (nI (k % 16) - dy).toNatClampNeg))
theorem qp_sh_B {f : Nat → Int32} (hf : qp_B f) (p : Nat) (dx dy : Int32) (k : Nat) : qp_sh f p dx dy k = 0 ∨ qp_sh f p dx dy k = 1 := by
  unfold qp_sh
  split
  · exact Or.inl rfl
  split
  · exact Or.inl rfl
  split
  · exact Or.inl rfl
  split
  · exact Or.inl rfl
  · exact hf _
theorem qp_sh49 {post : Int32 → SX → Prop} {J : Int32 → (Nat → Int32) → (Nat → Int32) → (Nat → Int32) → Prop} {f d l : Nat → Int32} {p x : Nat} {dx dy : Int32} (hp : p < 3) (hx : x < 16) (hf : qp_B f) (h : J (nI (x + 1)) f (qp_I d (qp_sh f p dx dy) (16 * (x + 1))) l) :
    ∃ n, wX_shift_49 post J (nI p) dx dy (nI x) n 0 f (qp_I d (qp_sh f p dx dy) (16 * x)) l := by
  refine qp_le (fun n y => wX_shift_49 post J (nI p) dx dy (nI x) n (nI y) f (qp_I d (qp_sh f p dx dy) (16 * x + y)) l) 0 16 (by omega) ?_ ?_
  · intro n
    exact br_t qp_ge16 (nm_r (nI_1 x) h)
  · intro n y h1 h2 W
    have L : ∀ c : Int32, qp_sh f p dx dy (16 * x + y) = c → vp_in (16 * nI x + nI y) 256 ∧ ∀ a', a' = upd (qp_I d (qp_sh f p dx dy) (16 * x + y)) (16 * nI x + nI y).toNatClampNeg (vp_nar .boolean c) → ∀ z, z = nI y + 1 → wX_shift_49 post J (nI p) dx dy (nI x) n z f a' l := by
      intro c hc
      refine And.intro (qp_v3 hx h2) ?_
      rw [qp_e3 hx h2, ← hc, qp_nb (qp_sh_B hf _ _ _ _)]
      exact nm_r qp_I_st (nm_r (nI_1 y) W)
    have ex : (16 * x + y) / 16 = x := by omega
    have ey : (16 * x + y) % 16 = y := by omega
    unfold qp_sh at L
    rw [ex, ey] at L
    refine br_f (qp_nge16 h2) (nm_e (nm_e ?_))
    by_cases c1 : nI x - dx < 0
    · exact br_t c1 (br_t rfl (L 0 (if_pos c1)))
    by_cases c2 : 16 ≤ nI x - dx
    · exact br_f c1 (br_t c2 (br_t rfl (L 0 (by rw [if_neg c1, if_pos c2]))))
    by_cases c3 : nI y - dy < 0
    · exact br_f c1 (br_f c2 (br_t c3 (br_t rfl (L 0 (by rw [if_neg c1, if_neg c2, if_pos c3])))))
    by_cases c4 : 16 ≤ nI y - dy
    · exact br_f c1 (br_f c2 (br_f c3 (br_t c4 (br_t rfl (L 0 (by rw [if_neg c1, if_neg c2, if_neg c3, if_pos c4]))))))
    refine br_f c1 (br_f c2 (br_f c3 (br_f c4 (br_f qp_10 ?_))))
    obtain ⟨x', hx', e1⟩ := nI_of c1
    obtain ⟨y', hy', e2⟩ := nI_of c3
    rw [if_neg c1, if_neg c2, if_neg c3, if_neg c4, e1, e2, nI_clamp hx', nI_clamp hy'] at L
    rw [e1] at c2 ⊢
    rw [e2] at c4 ⊢
    have hx2 : x' < 16 := by
      have : ¬ nI 16 ≤ nI x' := c2
      rw [nI_leI (by decide) hx'] at this; omega
    have hy2 : y' < 16 := by
      have : ¬ nI 16 ≤ nI y' := c4
      rw [nI_leI (by decide) hy'] at this; omega
    refine qp_isx hf hp hx2 hy2 (br_c (fun z => L 0 z) (fun z => L 1 ?_))
    rcases hf (256 * p + (16 * x' + y')) with h0 | h0
    · exact absurd h0 z
    · exact h0
theorem qp_shiftx {post : Int32 → SX → Prop} {f d l : Nat → Int32} {p : Nat} {dx dy : Int32} (hp : p < 3) (hf : qp_B f) (h : ∀ D, post (nI (qp_n (qp_P p f (qp_sh f p dx dy) 256) p)) (qp_P p f (qp_sh f p dx dy) 256, D, l)) :
    ∃ n, wX_shift_39 post (nI p) dx dy n 0 f d l := by
  refine qp_le (fun n x => wX_shift_39 post (nI p) dx dy n (nI x) f (qp_I d (qp_sh f p dx dy) (16 * x)) l) 0 16 (by omega) ?_ ?_
  · intro n
    refine br_t qp_ge16 (qp_tx hp ?_ ?_)
    · intro k hk
      rw [qp_I_in hk]; exact qp_sh_B hf _ _ _ _
    · rw [qp_P_eq (T' := qp_sh f p dx dy) (fun k hk => qp_I_in hk)]
      exact qp_cxa hp (h _)
  · intro n x h1 h2 W
    exact br_f (qp_nge16 h2) (qp_sh49 hp h2 hf W)
theorem qp_shifty {post : Int32 → SY → Prop} {f h s : Nat → Int32} {p : Nat} {dx dy : Int32} (hp : p < 3) (hf : qp_B f) (hh : ∀ k, k < 256 → h k = f (256 * p + k)) (H : post (nI (qp_n (qp_P p f (qp_sh f p dx dy) 256) p)) (qp_P p f (qp_sh f p dx dy) 256, h, s)) :
    ∃ n, wY_shift_45 post (nI p) dx dy n 0 f h s := by
  refine qp_le (fun n k => wY_shift_45 post (nI p) dx dy n (nI k) (qp_P p f (qp_sh f p dx dy) k) h s) 0 256 (by omega) ?_ ?_
  · intro n; exact br_t qp_ge256 (qp_cy hp H)
  · intro n k h1 h2 W
    have L : ∀ c : Int32, qp_sh f p dx dy k = c → vp_in (256 * nI p + nI k) 768 ∧ ∀ a', a' = upd (qp_P p f (qp_sh f p dx dy) k) (256 * nI p + nI k).toNatClampNeg (vp_nar .boolean c) → ∀ z, z = nI k + 1 → wY_shift_45 post (nI p) dx dy n z a' h s := by
      intro c hc
      refine And.intro (qp_v1 hp h2) ?_
      rw [qp_e1 hp h2, ← hc, qp_nb (qp_sh_B hf _ _ _ _)]
      exact nm_r (qp_P_st h2 rfl) (nm_r (nI_1 k) W)
    refine br_f (qp_nge h2) (And.intro qp_n16 (nm_r (e' := nI (k / 16) - dx) (by rw [qp_d16 (by omega)]) (And.intro qp_n16 (nm_r (e' := nI (k % 16) - dy) (by rw [qp_r16 (by omega)]) ?_))))
    have N : qp_sh f p dx dy k = 0 → wY_shift_99 post (wY_shift_45 post (nI p) dx dy n) (nI p) dx dy (nI k) (nI (k / 16) - dx) (nI (k % 16) - dy) (qp_P p f (qp_sh f p dx dy) k) h s := by
      intro hz
      unfold wY_shift_99 wY_shift_100
      exact br_t rfl (L 0 hz)
    have L' := L
    unfold qp_sh at N
    rw [show qp_sh f p dx dy k = _ from rfl] at L
    by_cases c1 : nI (k / 16) - dx < 0
    · exact br_t c1 (N (if_pos c1))
    by_cases c2 : 16 ≤ nI (k / 16) - dx
    · exact br_f c1 (br_t c2 (N (by rw [if_neg c1, if_pos c2])))
    by_cases c3 : nI (k % 16) - dy < 0
    · exact br_f c1 (br_f c2 (br_t c3 (N (by rw [if_neg c1, if_neg c2, if_pos c3]))))
    by_cases c4 : 16 ≤ nI (k % 16) - dy
    · exact br_f c1 (br_f c2 (br_f c3 (br_t c4 (N (by rw [if_neg c1, if_neg c2, if_neg c3, if_pos c4])))))
    refine br_f c1 (br_f c2 (br_f c3 (br_f c4 ?_)))
    obtain ⟨x', hx', e1⟩ := nI_of c1
    obtain ⟨y', hy', e2⟩ := nI_of c3
    have ev : qp_sh f p dx dy k = f (256 * p + (16 * x' + y')) := by
      unfold qp_sh
      rw [if_neg c1, if_neg c2, if_neg c3, if_neg c4, e1, e2, nI_clamp hx', nI_clamp hy']
    rw [e1] at c2 ⊢
    rw [e2] at c4 ⊢
    have hx2 : x' < 16 := by
      have : ¬ nI 16 ≤ nI x' := c2
      rw [nI_leI (by decide) hx'] at this; omega
    have hy2 : y' < 16 := by
      have : ¬ nI 16 ≤ nI y' := c4
      rw [nI_leI (by decide) hy'] at this; omega
    unfold wY_shift_100
    refine br_f qp_10 (And.intro (qp_v3 hx2 hy2) ?_)
    have eh : h (16 * nI x' + nI y').toNatClampNeg = qp_sh f p dx dy k := by
      rw [qp_e3 hx2 hy2, hh _ (by omega), ev]
    rw [eh]
    refine br_c (fun z => L' 0 z) (fun z => L' 1 ?_)
    rcases qp_sh_B hf p dx dy k with h0 | h0
    · exact absurd h0 z
    · exact h0
/-- zoom -/
def qp_z (f : Nat → Int32) (q c k : Nat) : Int32 := f (256 * q + (16 * (8 * (c / 2) + k / 16 / 2) + (8 * (c % 2) + k % 16 / 2)))
theorem qp_z57 {post : Int32 → SX → Prop} {J : Int32 → (Nat → Int32) → (Nat → Int32) → (Nat → Int32) → Prop} {f d l : Nat → Int32} {p q c x : Nat} (hp : p < 3) (hq : q < 3) (hc : c < 4) (hx : x < 16) (hf : qp_B f) (h : J (nI (x + 1)) f (qp_I d (qp_z f q c) (16 * (x + 1))) l) :
    ∃ n, wX_zoom_57 post J (nI p) (nI q) (nI (8 * (c / 2))) (nI (8 * (c % 2))) (nI x) n 0 f (qp_I d (qp_z f q c) (16 * x)) l := by
  refine qp_le (fun n y => wX_zoom_57 post J (nI p) (nI q) (nI (8 * (c / 2))) (nI (8 * (c % 2))) (nI x) n (nI y) f (qp_I d (qp_z f q c) (16 * x + y)) l) 0 16 (by omega) ?_ ?_
  · intro n
    exact br_t qp_ge16 (nm_r (nI_1 x) h)
  · intro n y h1 h2 W
    refine br_f (qp_nge16 h2) (And.intro qp_n2 (And.intro qp_n2 ?_))
    rw [qp_d2 (by omega), qp_d2 (by omega), nI_add, nI_add]
    refine qp_isx hf hq (by omega) (by omega) (And.intro (qp_v3 hx h2) ?_)
    have e : f (256 * q + (16 * (8 * (c / 2) + x / 2) + (8 * (c % 2) + y / 2))) = qp_z f q c (16 * x + y) := by
      unfold qp_z
      rw [show (16 * x + y) / 16 = x by omega, show (16 * x + y) % 16 = y by omega]
    rw [qp_e3 hx h2, qp_nb (hf _), e]
    exact nm_r qp_I_st (nm_r (nI_1 y) W)
theorem qp_zoomx {post : Int32 → SX → Prop} {f d l : Nat → Int32} {p q c : Nat} (hp : p < 3) (hq : q < 3) (hc : c < 4) (hf : qp_B f) (h : ∀ D, post (nI (qp_n (qp_P p f (qp_z f q c) 256) p)) (qp_P p f (qp_z f q c) 256, D, l)) :
    ∃ n, wX_zoom_47 post (nI p) (nI q) (nI (8 * (c / 2))) (nI (8 * (c % 2))) n 0 f d l := by
  refine qp_le (fun n x => wX_zoom_47 post (nI p) (nI q) (nI (8 * (c / 2))) (nI (8 * (c % 2))) n (nI x) f (qp_I d (qp_z f q c) (16 * x)) l) 0 16 (by omega) ?_ ?_
  · intro n
    refine br_t qp_ge16 (qp_tx hp ?_ ?_)
    · intro k hk
      rw [qp_I_in hk]; exact hf _
    · rw [qp_P_eq (T' := qp_z f q c) (fun k hk => qp_I_in hk)]
      exact qp_cxa hp (h _)
  · intro n x h1 h2 W
    exact br_f (qp_nge16 h2) (qp_z57 hp hq hc h2 hf W)
theorem qp_zoomy {post : Int32 → SY → Prop} {f h s : Nat → Int32} {p q c : Nat} (hp : p < 3) (hc : c < 4) (hf : qp_B f) (hh : ∀ k, k < 256 → h k = f (256 * q + k)) (H : post (nI (qp_n (qp_P p f (qp_z f q c) 256) p)) (qp_P p f (qp_z f q c) 256, h, s)) :
    ∃ n, wY_zoom_38 post (nI p) (nI c) n 0 f h s := by
  refine qp_le (fun n k => wY_zoom_38 post (nI p) (nI c) n (nI k) (qp_P p f (qp_z f q c) k) h s) 0 256 (by omega) ?_ ?_
  · intro n; exact br_t qp_ge256 (qp_cy hp H)
  · intro n k h1 h2 W
    have e1 : 8 * (nI c / 2) + (nI k / 16) / 2 = nI (8 * (c / 2) + k / 16 / 2) := by
      rw [qp_d2 (by omega), qp_d16 (by omega), qp_d2 (by omega), show (8 : Int32) = nI 8 from rfl, pk_mul, nI_add]
    have e2 : 8 * (nI c - nI c / 2 * 2) + (nI k - nI k / 16 * 16) / 2 = nI (8 * (c % 2) + k % 16 / 2) := by
      rw [qp_r2 (by omega), qp_r16 (by omega), qp_d2 (by omega), show (8 : Int32) = nI 8 from rfl, pk_mul, nI_add]
    refine br_f (qp_nge h2) (And.intro qp_n2 (And.intro qp_n16 (And.intro qp_n2 (nm_r e1 (And.intro qp_n2 (And.intro qp_n16 (And.intro qp_n2 (nm_r e2 ?_))))))))
    refine And.intro (qp_v3 (by omega) (by omega)) (And.intro (qp_v1 hp h2) ?_)
    rw [qp_e3 (by omega) (by omega), qp_e1 hp h2, hh _ (by omega), qp_nb (hf _)]
    exact nm_r (qp_P_st h2 rfl) (nm_r (nI_1 k) W)
