/-! pictures written anew: copy, takeDraft, hold, join, paint -/
def qp_r (p j : Nat) : Nat := if 256 * p ≤ j ∧ j < 256 * p + 256 then j - 256 * p else 256
theorem qp_rk {p k : Nat} (hk : k < 256) (j : Nat) : qp_r p j = k ↔ j = 256 * p + k := by
  unfold qp_r; split <;> omega
def qp_P (p : Nat) (f T : Nat → Int32) (k : Nat) : Nat → Int32 := qp_a f (fun j => T (j - 256 * p)) (qp_r p) k
theorem qp_P_0 (p : Nat) (f T : Nat → Int32) : qp_P p f T 0 = f := rfl
theorem qp_P_st {p : Nat} {f T : Nat → Int32} {k : Nat} {v : Int32} (hk : k < 256) (hv : v = T k) : upd (qp_P p f T k) (256 * p + k) v = qp_P p f T (k + 1) :=
  qp_a_st (qp_rk hk) (by rw [Nat.add_sub_cancel_left]; exact hv)
theorem qp_P_rd {p q : Nat} {f T : Nat → Int32} {k : Nat} (hk : k < 256) : qp_P p f T k (256 * q + k) = f (256 * q + k) :=
  qp_a_rd (by unfold qp_r; split <;> omega)
theorem qp_P_in {p : Nat} {f T : Nat → Int32} {k : Nat} (hk : k < 256) : qp_P p f T 256 (256 * p + k) = T k := by
  unfold qp_P
  rw [qp_a_wr (by unfold qp_r; split <;> omega), Nat.add_sub_cancel_left]
theorem qp_P_ext {p : Nat} {f T a : Nat → Int32} (h1 : ∀ k, k < 256 → a (256 * p + k) = T k) (h2 : ∀ j, ¬ (256 * p ≤ j ∧ j < 256 * p + 256) → a j = f j) : a = qp_P p f T 256 := by
  funext j
  by_cases h : 256 * p ≤ j ∧ j < 256 * p + 256
  · obtain ⟨k, hk, rfl⟩ : ∃ k, k < 256 ∧ j = 256 * p + k := ⟨j - 256 * p, by omega, by omega⟩
    rw [h1 k hk, qp_P_in hk]
  · rw [h2 j h]
    unfold qp_P
    rw [qp_a_rd]
    unfold qp_r
    rw [if_neg h]; omega
theorem qp_P_out {p : Nat} {f T : Nat → Int32} {j : Nat} (h : ¬ (256 * p ≤ j ∧ j < 256 * p + 256)) : qp_P p f T 256 j = f j := by
  unfold qp_P
  rw [qp_a_rd]
  unfold qp_r
  rw [if_neg h]; omega
theorem qp_P_eq {p : Nat} {f T T' : Nat → Int32} (h : ∀ k, k < 256 → T k = T' k) : qp_P p f T 256 = qp_P p f T' 256 :=
  qp_P_ext (fun k hk => by rw [qp_P_in hk, h k hk]) (fun j hj => qp_P_out hj)
theorem qp_P_B {p : Nat} {f T : Nat → Int32} (hf : qp_B f) (hT : ∀ k, k < 256 → T k = 0 ∨ T k = 1) : qp_B (qp_P p f T 256) := by
  intro j
  by_cases h : 256 * p ≤ j ∧ j < 256 * p + 256
  · obtain ⟨k, hk, rfl⟩ : ∃ k, k < 256 ∧ j = 256 * p + k := ⟨j - 256 * p, by omega, by omega⟩
    rw [qp_P_in hk]; exact hT k hk
  · rw [qp_P_out h]; exact hf j
theorem qp_v1 {p k : Nat} (hp : p < 3) (hk : k < 256) : vp_in (256 * nI p + nI k) 768 := by
  rw [qp_i1]; exact vp_in_nI (by omega) (by decide)
theorem qp_e1 {p k : Nat} (hp : p < 3) (hk : k < 256) : (256 * nI p + nI k).toNatClampNeg = 256 * p + k := by
  rw [qp_i1, nI_clamp (by omega)]
theorem qp_v2 {p x y : Nat} (hp : p < 3) (hx : x < 16) (hy : y < 16) : vp_in (256 * nI p + 16 * nI x + nI y) 768 := by
  rw [qp_i2]; exact vp_in_nI (by omega) (by decide)
theorem qp_e2 {p x y : Nat} (hp : p < 3) (hx : x < 16) (hy : y < 16) : (256 * nI p + 16 * nI x + nI y).toNatClampNeg = 256 * p + (16 * x + y) := by
  rw [qp_i2, nI_clamp (by omega)]; omega
theorem qp_v3 {x y : Nat} (hx : x < 16) (hy : y < 16) : vp_in (16 * nI x + nI y) 256 := by
  rw [qp_i3]; exact vp_in_nI (by omega) (by decide)
theorem qp_e3 {x y : Nat} (hx : x < 16) (hy : y < 16) : (16 * nI x + nI y).toNatClampNeg = 16 * x + y := by
  rw [qp_i3, nI_clamp (by omega)]
theorem qp_e0 {k : Nat} (hk : k < 256) : (nI k).toNatClampNeg = k := nI_clamp (by omega)
theorem qp_ge256 : (256 : Int32) ≤ nI 256 := nI_le (a := 256) (by omega) (by decide)
theorem qp_nge {k : Nat} (h : k < 256) : ¬ (256 : Int32) ≤ nI k := nI_ge (b := 256) h (by decide)
theorem qp_ge16 : (16 : Int32) ≤ nI 16 := nI_le (a := 16) (by omega) (by decide)
theorem qp_nge16 {k : Nat} (h : k < 16) : ¬ (16 : Int32) ≤ nI k := nI_ge (b := 16) h (by decide)
/-- copy -/
theorem qp_copyx {post : Int32 → SX → Prop} {f d l : Nat → Int32} {p q : Nat} (hp : p < 3) (hq : q < 3) (hf : qp_B f) (h : post 0 (qp_P p f (fun k => f (256 * q + k)) 256, d, l)) : ∃ n, wX_copy_18 post (nI p) (nI q) n 0 f d l := by
  refine qp_le (fun n i => wX_copy_18 post (nI p) (nI q) n (nI i) (qp_P p f (fun k => f (256 * q + k)) i) d l) 0 256 (by omega) ?_ ?_
  · intro n; exact br_t qp_ge256 h
  · intro n i h1 h2 W
    refine br_f (qp_nge h2) (And.intro (qp_v1 hq h2) (And.intro (qp_v1 hp h2) ?_))
    rw [qp_e1 hp h2, qp_e1 hq h2, qp_P_rd h2]
    exact nm_r (qp_P_st h2 (qp_nb (hf _))) (nm_r (nI_1 i) W)
theorem qp_tx {post : SX → Prop} {f d l : Nat → Int32} {p : Nat} (hp : p < 3) (hd : ∀ k, k < 256 → d k = 0 ∨ d k = 1) (h : post (qp_P p f d 256, d, l)) : wpX_takeDraft post (f, d, l) (nI p) := by
  refine qp_le (fun n i => wX_takeDraft_2 post (nI p) n (nI i) (qp_P p f d i) d l) 0 256 (by omega) ?_ ?_
  · intro n; exact br_t qp_ge256 h
  · intro n i h1 h2 W
    refine br_f (qp_nge h2) (And.intro (vp_in_nI h2 (by decide)) (And.intro (qp_v1 hp h2) ?_))
    rw [qp_e1 hp h2, qp_e0 h2]
    exact nm_r (qp_P_st h2 (qp_nb (hd i h2))) (nm_r (nI_1 i) W)
def qp_H (p : Nat) (f h : Nat → Int32) (k : Nat) : Nat → Int32 := qp_a h (fun m => f (256 * p + m)) (fun m => m) k
theorem qp_H_in {p : Nat} {f h : Nat → Int32} {k : Nat} (hk : k < 256) : qp_H p f h 256 k = f (256 * p + k) := qp_a_wr hk
theorem qp_hy {post : SY → Prop} {f h s : Nat → Int32} {p : Nat} (hp : p < 3) (hf : qp_B f) (H : post (f, qp_H p f h 256, s)) : wpY_hold post (f, h, s) (nI p) := by
  refine qp_le (fun n i => wY_hold_2 post (nI p) n (nI i) f (qp_H p f h i) s) 0 256 (by omega) ?_ ?_
  · intro n; exact br_t qp_ge256 H
  · intro n i h1 h2 W
    refine br_f (qp_nge h2) (And.intro (qp_v1 hp h2) (And.intro (vp_in_nI h2 (by decide)) ?_))
    rw [qp_e1 hp h2, qp_e0 h2]
    exact nm_r (qp_a_st (fun j => Iff.rfl) (qp_nb (hf _))) (nm_r (nI_1 i) W)
theorem qp_copyy {post : Int32 → SY → Prop} {f h s : Nat → Int32} {p : Nat} (hp : p < 3) (hh : ∀ k, k < 256 → h k = 0 ∨ h k = 1) (H : post 0 (qp_P p f h 256, h, s)) : ∃ n, wY_copy_25 post (nI p) n 0 f h s := by
  refine qp_le (fun n i => wY_copy_25 post (nI p) n (nI i) (qp_P p f h i) h s) 0 256 (by omega) ?_ ?_
  · intro n; exact br_t qp_ge256 H
  · intro n i h1 h2 W
    refine br_f (qp_nge h2) (And.intro (vp_in_nI h2 (by decide)) (And.intro (qp_v1 hp h2) ?_))
    rw [qp_e1 hp h2, qp_e0 h2]
    exact nm_r (qp_P_st h2 (qp_nb (hh i h2))) (nm_r (nI_1 i) W)
/-- join -/
def qp_jn (kd : Nat) (a b : Int32) : Int32 :=
  if kd = 0 then (if a = 0 then 0 else if b = 0 then 0 else 1)
  else if kd = 1 then (if a = 0 then (if b = 0 then 0 else 1) else 1)
  else if kd = 2 then (if a = b then 0 else 1)
  else (if a = 0 then 0 else if b = 0 then 1 else 0)
theorem qp_jn_B (kd : Nat) (a b : Int32) : qp_jn kd a b = 0 ∨ qp_jn kd a b = 1 := by
  unfold qp_jn
  repeat' split
  all_goals simp
theorem qp_jx {kd : Nat} (h : kd < 4) {post : Int32 → Prop} {a b : Int32} (hp : post (qp_jn kd a b)) : wpX_isJoined post (nI kd) a b := by
  have hk : kd = 0 ∨ kd = 1 ∨ kd = 2 ∨ kd = 3 := by omega
  rcases hk with rfl | rfl | rfl | rfl
  · exact br_f (by decide) (br_f (by decide) (br_t (by decide) (br_c (fun za => by simpa [qp_jn, za] using hp) (fun za => br_c (fun zb => by simpa [qp_jn, za, zb] using hp) (fun zb => by simpa [qp_jn, za, zb] using hp)))))
  · exact br_f (by decide) (br_f (by decide) (br_f (by decide) (br_t (by decide) (br_c (fun za => br_c (fun zb => by simpa [qp_jn, za, zb] using hp) (fun zb => by simpa [qp_jn, za, zb] using hp)) (fun za => by simpa [qp_jn, za] using hp)))))
  · exact br_f (by decide) (br_f (by decide) (br_f (by decide) (br_f (by decide) (br_t (by decide) (br_c (fun za => by simpa [qp_jn, za] using hp) (fun za => by simpa [qp_jn, za] using hp))))))
  · exact br_f (by decide) (br_t (by decide) (br_c (fun za => by simpa [qp_jn, za] using hp) (fun za => br_c (fun zb => by simpa [qp_jn, za, zb] using hp) (fun zb => by simpa [qp_jn, za, zb] using hp))))
theorem qp_joinx {post : Int32 → SX → Prop} {f d l : Nat → Int32} {kd p q : Nat} (hk : kd < 4) (hp : p < 3) (hq : q < 3) (hf : qp_B f) (h : post (nI (qp_n (qp_P p f (fun k => qp_jn kd (f (256 * p + k)) (f (256 * q + k))) 256) p)) (qp_P p f (fun k => qp_jn kd (f (256 * p + k)) (f (256 * q + k))) 256, d, l)) : ∃ n, wX_join_31 post (nI kd) (nI p) (nI q) n 0 f d l := by
  refine qp_le (fun n i => wX_join_31 post (nI kd) (nI p) (nI q) n (nI i) (qp_P p f (fun k => qp_jn kd (f (256 * p + k)) (f (256 * q + k))) i) d l) 0 256 (by omega) ?_ ?_
  · intro n; exact br_t qp_ge256 (qp_cxa hp h)
  · intro n i h1 h2 W
    refine br_f (qp_nge h2) (And.intro (qp_v1 hp h2) ?_)
    rw [qp_e1 hp h2, qp_e1 hq h2, qp_P_rd h2, qp_P_rd h2]
    refine nm_e (And.intro (qp_v1 hq h2) (nm_e (qp_jx hk (And.intro (qp_v1 hp h2) ?_))))
    exact nm_r (qp_P_st h2 (qp_nb (qp_jn_B _ _ _))) (nm_r (nI_1 i) W)
theorem qp_joiny {post : Int32 → SY → Prop} {f h s T : Nat → Int32} {kd p : Nat} (hk : kd < 4) (hp : p < 3) (hT : ∀ k, k < 256 → T k = qp_jn kd (f (256 * p + k)) (h k)) (H : post (nI (qp_n (qp_P p f T 256) p)) (qp_P p f T 256, h, s)) : ∃ n, wY_join_38 post (nI kd) (nI p) n 0 f h s := by
  refine qp_le (fun n i => wY_join_38 post (nI kd) (nI p) n (nI i) (qp_P p f T i) h s) 0 256 (by omega) ?_ ?_
  · intro n; exact br_t qp_ge256 (qp_cy hp H)
  · intro n i h1 h2 W
    have L : ∀ c : Int32, T i = c → vp_in (256 * nI p + nI i) 768 ∧ ∀ a', a' = upd (qp_P p f T i) (256 * nI p + nI i).toNatClampNeg (vp_nar .boolean c) → ∀ x, x = nI i + 1 → wY_join_38 post (nI kd) (nI p) n x a' h s := by
      intro c hc
      refine And.intro (qp_v1 hp h2) ?_
      rw [qp_e1 hp h2]
      have hb : c = 0 ∨ c = 1 := by rw [← hc, hT i h2]; exact qp_jn_B _ _ _
      exact nm_r (qp_P_st h2 (by rw [qp_nb hb, hc])) (nm_r (nI_1 i) W)
    refine br_f (qp_nge h2) (And.intro (qp_v1 hp h2) (nm_r (e' := f (256 * p + i)) (by rw [qp_e1 hp h2, qp_P_rd h2]) (And.intro (vp_in_nI h2 (by decide)) (nm_r (e' := h i) (by rw [qp_e0 h2]) ?_))))
    have hT := hT i h2
    have hk : kd = 0 ∨ kd = 1 ∨ kd = 2 ∨ kd = 3 := by omega
    rcases hk with rfl | rfl | rfl | rfl
    · exact br_t (by decide) (br_c (fun za => L _ (by simp [hT, qp_jn, za])) (fun za => br_c (fun zb => L _ (by simp [hT, qp_jn, za, zb])) (fun zb => L _ (by simp [hT, qp_jn, za, zb]))))
    · exact br_f (by decide) (br_t (by decide) (br_c (fun za => br_c (fun zb => L _ (by simp [hT, qp_jn, za, zb])) (fun zb => L _ (by simp [hT, qp_jn, za, zb]))) (fun za => L _ (by simp [hT, qp_jn, za]))))
    · exact br_f (by decide) (br_f (by decide) (br_t (by decide) (br_c (fun za => L _ (by simp [hT, qp_jn, za])) (fun za => L _ (by simp [hT, qp_jn, za])))))
    · exact br_f (by decide) (br_f (by decide) (br_f (by decide) (br_c (fun za => L _ (by simp [hT, qp_jn, za])) (fun za => br_c (fun zb => L _ (by simp [hT, qp_jn, za, zb])) (fun zb => L _ (by simp [hT, qp_jn, za, zb]))))))
/-- paint -/
def qp_m (mo : Nat) (v : Int32) : Int32 := if mo = 2 then (if v = 0 then 1 else 0) else if mo = 1 then 1 else 0
theorem qp_m_B (mo : Nat) (v : Int32) : qp_m mo v = 0 ∨ qp_m mo v = 1 := by
  unfold qp_m
  repeat' split
  all_goals simp
def qp_rf (p lo hi j : Nat) : Nat := if (256 * p ≤ j ∧ j < 256 * p + 256) ∧ lo / 16 ≤ (j - 256 * p) / 16 ∧ (j - 256 * p) / 16 ≤ hi / 16 ∧ lo % 16 ≤ (j - 256 * p) % 16 ∧ (j - 256 * p) % 16 ≤ hi % 16 then j - 256 * p else 256
theorem qp_rfk {p lo hi k : Nat} (hk : k < 256) (hi' : qp_ins lo hi k) (j : Nat) : qp_rf p lo hi j = k ↔ j = 256 * p + k := by
  unfold qp_ins at hi'
  constructor
  · intro h
    unfold qp_rf at h
    split at h <;> omega
  · rintro rfl
    unfold qp_rf
    rw [Nat.add_sub_cancel_left]
    exact if_pos ⟨by omega, hi'⟩
theorem qp_rf_out {p lo hi a b : Nat} (hb : b ≤ 256) (h : ∀ k, a ≤ k → k < b → ¬ qp_ins lo hi k) (j : Nat) : qp_rf p lo hi j < a ∨ b ≤ qp_rf p lo hi j := by
  unfold qp_rf
  split
  · rename_i h1
    by_cases h2 : j - 256 * p < a
    · exact Or.inl h2
    · by_cases h3 : j - 256 * p < b
      · exact absurd h1.2 (h _ (by omega) h3)
      · exact Or.inr (by omega)
  · exact Or.inr hb
def qp_F (p lo hi mo : Nat) (f : Nat → Int32) (k : Nat) : Nat → Int32 := qp_a f (fun j => qp_m mo (f j)) (qp_rf p lo hi) k
theorem qp_F_st {p lo hi mo : Nat} {f : Nat → Int32} {k : Nat} (hk : k < 256) (hi' : qp_ins lo hi k) : upd (qp_F p lo hi mo f k) (256 * p + k) (qp_m mo (f (256 * p + k))) = qp_F p lo hi mo f (k + 1) := qp_a_st (qp_rfk hk hi') rfl
theorem qp_F_rd {p lo hi mo : Nat} {f : Nat → Int32} {k : Nat} (hk : k < 256) : qp_F p lo hi mo f k (256 * p + k) = f (256 * p + k) :=
  qp_a_rd (by unfold qp_rf; split <;> omega)
theorem qp_F_sk {p lo hi mo : Nat} {f : Nat → Int32} {a b : Nat} (hab : a ≤ b) (hb : b ≤ 256) (h : ∀ k, a ≤ k → k < b → ¬ qp_ins lo hi k) : qp_F p lo hi mo f b = qp_F p lo hi mo f a := qp_a_skip hab (qp_rf_out hb h)
theorem qp_F_B {p lo hi mo : Nat} {f : Nat → Int32} (hf : qp_B f) (k : Nat) : qp_B (qp_F p lo hi mo f k) := by
  intro j
  unfold qp_F qp_a
  split
  · exact qp_m_B _ _
  · exact hf j
theorem qp_p55 {post : Int32 → SX → Prop} {J : Int32 → (Nat → Int32) → (Nat → Int32) → (Nat → Int32) → Prop} {f d l : Nat → Int32} {p lo hi mo x : Nat} (hp : p < 3) (hl : lo < 256) (hh : hi < 256) (hm : mo < 3) (hx1 : lo / 16 ≤ x) (hx2 : x ≤ hi / 16) (hr : lo % 16 ≤ hi % 16) (h : J (nI (x + 1)) (qp_F p lo hi mo f (16 * x + (hi % 16 + 1))) d l) :
    ∃ n, wX_paint_55 post J (nI p) (nI lo) (nI hi) (nI mo) (nI x) n (nI (lo % 16)) (qp_F p lo hi mo f (16 * x + lo % 16)) d l := by
  refine qp_le (fun n y => wX_paint_55 post J (nI p) (nI lo) (nI hi) (nI mo) (nI x) n (nI y) (qp_F p lo hi mo f (16 * x + y)) d l) (lo % 16) (hi % 16 + 1) (by omega) ?_ ?_
  · intro n
    refine And.intro qp_n16 (br_t ?_ (nm_r (nI_1 x) h))
    rw [qp_r16 (by omega)]
    exact nI_lt (by omega) (by omega)
  · intro n y h1 h2 W
    have hb : ¬ (nI hi - nI hi / 16 * 16) < nI y := by
      rw [qp_r16 (by omega)]
      exact nI_nlt (by omega) (by omega)
    have hi' : qp_ins lo hi (16 * x + y) := by unfold qp_ins; omega
    have hk : 16 * x + y < 256 := by omega
    have hv : vp_in (nI (256 * p + (16 * x + y))) 768 := vp_in_nI (by omega) (by decide)
    have ec : (nI (256 * p + (16 * x + y))).toNatClampNeg = 256 * p + (16 * x + y) := nI_clamp (by omega)
    have L : ∀ c : Int32, qp_m mo (f (256 * p + (16 * x + y))) = c → vp_in (nI (256 * p + (16 * x + y))) 768 ∧ ∀ a', a' = upd (qp_F p lo hi mo f (16 * x + y)) (nI (256 * p + (16 * x + y))).toNatClampNeg (vp_nar .boolean c) → ∀ z, z = nI y + 1 → wX_paint_55 post J (nI p) (nI lo) (nI hi) (nI mo) (nI x) n z a' d l := by
      intro c hc
      refine And.intro hv ?_
      rw [ec, ← hc, qp_nb (qp_m_B _ _)]
      exact nm_r (qp_F_st hk hi') (nm_r (nI_1 y) W)
    refine And.intro qp_n16 (br_f hb (nm_r (e' := nI (256 * p + (16 * x + y))) (by rw [qp_i2, Nat.add_assoc]) ?_))
    have er : qp_F p lo hi mo f (16 * x + y) (nI (256 * p + (16 * x + y))).toNatClampNeg = f (256 * p + (16 * x + y)) := by rw [ec, qp_F_rd hk]
    have hm' : mo = 0 ∨ mo = 1 ∨ mo = 2 := by omega
    rcases hm' with rfl | rfl | rfl
    · exact br_f (by decide) (br_f (by decide) (L _ (by simp [qp_m])))
    · exact br_f (by decide) (br_t (by decide) (L _ (by simp [qp_m])))
    · refine br_t (by decide) (And.intro hv (br_c (fun z => L _ ?_) (fun z => L _ ?_)))
      · rw [er] at z; simp [qp_m, z]
      · rw [er] at z; simp [qp_m, z]
theorem qp_paintx {post : Int32 → SX → Prop} {f d l : Nat → Int32} {p lo hi mo : Nat} (hp : p < 3) (hl : lo < 256) (hh : hi < 256) (hm : mo < 3) (hq : lo / 16 ≤ hi / 16) (hr : lo % 16 ≤ hi % 16) (h : post (nI (qp_n (qp_F p lo hi mo f 256) p)) (qp_F p lo hi mo f 256, d, l)) :
    ∃ n, wX_paint_40 post (nI p) (nI lo) (nI hi) (nI mo) n (nI (lo / 16)) f d l := by
  have key : ∃ n, wX_paint_40 post (nI p) (nI lo) (nI hi) (nI mo) n (nI (lo / 16)) (qp_F p lo hi mo f (16 * (lo / 16))) d l := by
    refine qp_le (fun n x => wX_paint_40 post (nI p) (nI lo) (nI hi) (nI mo) n (nI x) (qp_F p lo hi mo f (16 * x)) d l) (lo / 16) (hi / 16 + 1) (by omega) ?_ ?_
    · intro n
      refine And.intro qp_n16 (br_t ?_ ?_)
      · rw [qp_d16 (by omega)]; exact nI_lt (by omega) (by omega)
      · rw [qp_F_sk (a := 16 * (hi / 16 + 1)) (b := 256) (by omega) (by omega) (fun k h1 h2 => by unfold qp_ins; omega)] at h
        exact qp_cxa hp h
    · intro n x h1 h2 W
      refine And.intro qp_n16 (br_f ?_ (And.intro qp_n16 (nm_r (qp_r16 (by omega)) ?_)))
      · rw [qp_d16 (by omega)]; exact nI_nlt (by omega) (by omega)
      · have e1 : qp_F p lo hi mo f (16 * x + lo % 16) = qp_F p lo hi mo f (16 * x) := qp_F_sk (by omega) (by omega) (fun k h1 h2 => by unfold qp_ins; omega)
        have e2 : qp_F p lo hi mo f (16 * (x + 1)) = qp_F p lo hi mo f (16 * x + (hi % 16 + 1)) := qp_F_sk (by omega) (by omega) (fun k h1 h2 => by unfold qp_ins; omega)
        rw [← e1]
        refine qp_p55 hp hl hh hm h1 (by omega) hr ?_
        rw [← e2]; exact W
  have e0 : qp_F p lo hi mo f (16 * (lo / 16)) = f := by
    rw [qp_F_sk (a := 0) (b := 16 * (lo / 16)) (by omega) (by omega) (fun k h1 h2 => by unfold qp_ins; omega)]; exact qp_a_0 _ _ _
  rw [e0] at key
  exact key
theorem qp_painty {post : Int32 → SY → Prop} {f h s : Nat → Int32} {p lo hi mo : Nat} (hp : p < 3) (hl : lo < 256) (hh : hi < 256) (hm : mo < 3) (H : post (nI (qp_n (qp_F p lo hi mo f 256) p)) (qp_F p lo hi mo f 256, h, s)) :
    ∃ n, wY_paint_39 post (nI p) (nI lo) (nI hi) (nI mo) n 0 f h s := by
  refine qp_le (fun n k => wY_paint_39 post (nI p) (nI lo) (nI hi) (nI mo) n (nI k) (qp_F p lo hi mo f k) h s) 0 256 (by omega) ?_ ?_
  · intro n; exact br_t qp_ge256 (qp_cy hp H)
  · intro n k h1 h2 W
    refine br_f (qp_nge h2) (qp_insy h2 hl hh ?_ ?_)
    · intro hi'
      have L : ∀ c : Int32, qp_m mo (f (256 * p + k)) = c → vp_in (256 * nI p + nI k) 768 ∧ ∀ a', a' = upd (qp_F p lo hi mo f k) (256 * nI p + nI k).toNatClampNeg (vp_nar .boolean c) → ∀ z, z = nI k + 1 → wY_paint_39 post (nI p) (nI lo) (nI hi) (nI mo) n z a' h s := by
        intro c hc
        refine And.intro (qp_v1 hp h2) ?_
        rw [qp_e1 hp h2, ← hc, qp_nb (qp_m_B _ _)]
        exact nm_r (qp_F_st h2 hi') (nm_r (nI_1 k) W)
      have er : qp_F p lo hi mo f k (256 * nI p + nI k).toNatClampNeg = f (256 * p + k) := by rw [qp_e1 hp h2, qp_F_rd h2]
      have hm' : mo = 0 ∨ mo = 1 ∨ mo = 2 := by omega
      rcases hm' with rfl | rfl | rfl
      · exact br_f qp_10 (br_f (by decide) (br_f (by decide) (L _ (by simp [qp_m]))))
      · exact br_f qp_10 (br_f (by decide) (br_t (by decide) (L _ (by simp [qp_m]))))
      · refine br_f qp_10 (br_t (by decide) (And.intro (qp_v1 hp h2) (br_c (fun z => L _ ?_) (fun z => L _ ?_))))
        · rw [er] at z; simp [qp_m, z]
        · rw [er] at z; simp [qp_m, z]
    · intro hi'
      refine br_t rfl (nm_r (nI_1 k) ?_)
      rw [qp_F_sk (a := k) (b := k + 1) (by omega) (by omega) (fun k' h3 h4 => by have e : k' = k := by omega
                                                                                  rw [e]; exact hi')] at W
      exact W
