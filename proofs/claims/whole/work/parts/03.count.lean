/-! points, frames, counting -/
theorem qp_pt (v w : Int32) : (∃ x y, x < 16 ∧ y < 16 ∧ v = nI x ∧ w = nI y) ∨ ((∀ post : Int32 → Prop, post 0 → wpX_isPoint post v w) ∧ (∀ (post : Int32 → Prop) (a b c : Nat → Int32), post 1 → wpY_out post (a, b, c) v w)) := by
  rcases pk_ix v (n := 16) (by decide) with h | h | ⟨x, hx, rfl⟩
  · exact Or.inr ⟨fun post hp => br_t h hp, fun post a b c hp => br_t h hp⟩
  · refine Or.inr ⟨fun post hp => br_c (fun _ => hp) (fun _ => br_t h hp), fun post a b c hp => br_c (fun _ => hp) (fun h0 => br_t ?_ hp)⟩
    obtain ⟨j, hj, rfl⟩ := nI_of h0
    rw [nI_leI (by decide) hj] at h
    exact nI_lt (a := 15) (b := j) (by omega) hj
  · have h0 : ¬ nI x < 0 := nI_pos (by omega)
    have h1 : ¬ (16 : Int32) ≤ nI x := nI_ge (b := 16) hx (by decide)
    have h2 : ¬ (15 : Int32) < nI x := nI_nlt (a := 15) (by omega) (by decide)
    rcases pk_ix w (n := 16) (by decide) with h | h | ⟨y, hy, rfl⟩
    · exact Or.inr ⟨fun post hp => br_f h0 (br_f h1 (br_t h hp)), fun post a b c hp => br_f h0 (br_f h2 (br_t h hp))⟩
    · refine Or.inr ⟨fun post hp => br_f h0 (br_f h1 (br_c (fun _ => hp) (fun _ => br_t h hp))), fun post a b c hp => br_f h0 (br_f h2 (br_c (fun _ => hp) (fun h3 => br_f ?_ hp)))⟩
      obtain ⟨j, hj, rfl⟩ := nI_of h3
      rw [nI_leI (by decide) hj] at h
      exact nI_ge (a := 15) (b := j) (by omega) hj
    · exact Or.inl ⟨x, y, hx, hy, rfl, rfl⟩
theorem qp_ptx {x y : Nat} (hx : x < 16) (hy : y < 16) {post : Int32 → Prop} (h : post 1) : wpX_isPoint post (nI x) (nI y) :=
  br_f (nI_pos (by omega)) (br_f (nI_ge (b := 16) hx (by decide)) (br_f (nI_pos (by omega)) (br_f (nI_ge (b := 16) hy (by decide)) h)))
theorem qp_pty {x y : Nat} (hx : x < 16) (hy : y < 16) {post : Int32 → Prop} {a b c : Nat → Int32} (h : post 0) : wpY_out post (a, b, c) (nI x) (nI y) :=
  br_f (nI_pos (by omega)) (br_f (nI_nlt (a := 15) (by omega) (by decide)) (br_f (nI_pos (by omega)) (br_t (nI_le (b := 15) (by omega) (by decide)) h)))
theorem qp_fr (v w : Int32) : (∃ lo hi, lo < 256 ∧ hi < 256 ∧ lo / 16 ≤ hi / 16 ∧ lo % 16 ≤ hi % 16 ∧ v = nI lo ∧ w = nI hi) ∨ ((∀ post : Int32 → Prop, post 0 → wpX_isRectangle post v w) ∧ (∀ (post : Int32 → Prop) (a b c : Nat → Int32), post 1 → wpY_badFrame post (a, b, c) v w)) := by
  rcases pk_ix v (n := 256) (by decide) with h | h | ⟨x, hx, rfl⟩
  · exact Or.inr ⟨fun post hp => br_t h hp, fun post a b c hp => br_t h hp⟩
  · have q : ¬ v < 0 → (255 : Int32) < v := by
      intro h0
      obtain ⟨j, hj, rfl⟩ := nI_of h0
      rw [nI_leI (by decide) hj] at h
      exact nI_lt (a := 255) (b := j) (by omega) hj
    exact Or.inr ⟨fun post hp => br_c (fun _ => hp) (fun h0 => br_t (q h0) hp), fun post a b c hp => br_c (fun _ => hp) (fun h0 => br_t (q h0) hp)⟩
  · have h0 : ¬ nI x < 0 := nI_pos (by omega)
    have h2 : ¬ (255 : Int32) < nI x := nI_nlt (a := 255) (by omega) (by decide)
    rcases pk_ix w (n := 256) (by decide) with h | h | ⟨y, hy, rfl⟩
    · exact Or.inr ⟨fun post hp => br_f h0 (br_f h2 (br_t h hp)), fun post a b c hp => br_f h0 (br_f h2 (br_t h hp))⟩
    · have q : ¬ w < 0 → ¬ w ≤ (255 : Int32) := by
        intro h0
        obtain ⟨j, hj, rfl⟩ := nI_of h0
        rw [nI_leI (by decide) hj] at h
        exact nI_ge (a := 255) (b := j) (by omega) hj
      exact Or.inr ⟨fun post hp => br_f h0 (br_f h2 (br_c (fun _ => hp) (fun h3 => br_f (q h3) hp))), fun post a b c hp => br_f h0 (br_f h2 (br_c (fun _ => hp) (fun h3 => br_f (q h3) hp)))⟩
    · have h3 : ¬ nI y < 0 := nI_pos (by omega)
      have h4 : nI y ≤ (255 : Int32) := nI_le (b := 255) (by omega) (by decide)
      by_cases hq : x / 16 ≤ y / 16
      · have h5 : ¬ nI y / 16 < nI x / 16 := by
          rw [qp_d16 (by omega), qp_d16 (by omega)]
          exact nI_nlt hq (by omega)
        by_cases hr : x % 16 ≤ y % 16
        · exact Or.inl ⟨x, y, hx, hy, hq, hr, rfl, rfl⟩
        · have h6 : (nI y - nI y / 16 * 16) < (nI x - nI x / 16 * 16) := by
            rw [qp_r16 (by omega), qp_r16 (by omega)]
            exact nI_lt (by omega) (by omega)
          have h7 : ¬ (nI x - nI x / 16 * 16) ≤ (nI y - nI y / 16 * 16) := by
            rw [qp_r16 (by omega), qp_r16 (by omega)]
            exact nI_ge (by omega) (by omega)
          exact Or.inr ⟨fun post hp => br_f h0 (br_f h2 (br_f h3 (br_t h4 (And.intro qp_n16 (And.intro qp_n16 (br_f h5 (And.intro qp_n16 (And.intro qp_n16 (br_t h6 hp))))))))), fun post a b c hp => br_f h0 (br_f h2 (br_f h3 (br_t h4 (And.intro qp_n16 (And.intro qp_n16 (br_f h5 (And.intro qp_n16 (And.intro qp_n16 (br_f h7 hp)))))))))⟩
      · have h5 : nI y / 16 < nI x / 16 := by
          rw [qp_d16 (by omega), qp_d16 (by omega)]
          exact nI_lt (by omega) (by omega)
        exact Or.inr ⟨fun post hp => br_f h0 (br_f h2 (br_f h3 (br_t h4 (And.intro qp_n16 (And.intro qp_n16 (br_t h5 hp)))))), fun post a b c hp => br_f h0 (br_f h2 (br_f h3 (br_t h4 (And.intro qp_n16 (And.intro qp_n16 (br_t h5 hp))))))⟩
theorem qp_frx {x y : Nat} (hx : x < 256) (hy : y < 256) (hq : x / 16 ≤ y / 16) (hr : x % 16 ≤ y % 16) {post : Int32 → Prop} (h : post 1) : wpX_isRectangle post (nI x) (nI y) := by
  have h5 : ¬ nI y / 16 < nI x / 16 := by
    rw [qp_d16 (by omega), qp_d16 (by omega)]
    exact nI_nlt hq (by omega)
  have h6 : ¬ (nI y - nI y / 16 * 16) < (nI x - nI x / 16 * 16) := by
    rw [qp_r16 (by omega), qp_r16 (by omega)]
    exact nI_nlt (by omega) (by omega)
  exact br_f (nI_pos (by omega)) (br_f (nI_nlt (a := 255) (by omega) (by decide)) (br_f (nI_pos (by omega)) (br_t (nI_le (b := 255) (by omega) (by decide)) (And.intro qp_n16 (And.intro qp_n16 (br_f h5 (And.intro qp_n16 (And.intro qp_n16 (br_f h6 h)))))))))
theorem qp_fry {x y : Nat} (hx : x < 256) (hy : y < 256) (hq : x / 16 ≤ y / 16) (hr : x % 16 ≤ y % 16) {post : Int32 → Prop} {a b c : Nat → Int32} (h : post 0) : wpY_badFrame post (a, b, c) (nI x) (nI y) := by
  have h5 : ¬ nI y / 16 < nI x / 16 := by
    rw [qp_d16 (by omega), qp_d16 (by omega)]
    exact nI_nlt hq (by omega)
  have h6 : (nI x - nI x / 16 * 16) ≤ (nI y - nI y / 16 * 16) := by
    rw [qp_r16 (by omega), qp_r16 (by omega)]
    exact nI_le (by omega) (by omega)
  exact br_f (nI_pos (by omega)) (br_f (nI_nlt (a := 255) (by omega) (by decide)) (br_f (nI_pos (by omega)) (br_t (nI_le (b := 255) (by omega) (by decide)) (And.intro qp_n16 (And.intro qp_n16 (br_f h5 (And.intro qp_n16 (And.intro qp_n16 (br_t h6 h)))))))))
/-- k lies in the frame -/
def qp_ins (lo hi k : Nat) : Prop := lo / 16 ≤ k / 16 ∧ k / 16 ≤ hi / 16 ∧ lo % 16 ≤ k % 16 ∧ k % 16 ≤ hi % 16
theorem qp_insy {k lo hi : Nat} (hk : k < 256) (hl : lo < 256) (hh : hi < 256) {post : Int32 → Prop} {a b c : Nat → Int32} (h1 : qp_ins lo hi k → post 1) (h0 : ¬ qp_ins lo hi k → post 0) : wpY_inside post (a, b, c) (nI k) (nI lo) (nI hi) := by
  refine And.intro qp_n16 (And.intro qp_n16 (pk_lt (k / 16) (lo / 16) (fun z => h0 (fun q => ?_)) (fun z1 => And.intro qp_n16 (And.intro qp_n16 (pk_lt (hi / 16) (k / 16) (fun z => h0 (fun q => ?_)) (fun z2 => And.intro qp_n16 (And.intro qp_n16 (pk_lt (k % 16) (lo % 16) (fun z => h0 (fun q => ?_)) (fun z3 => And.intro qp_n16 (And.intro qp_n16 (pk_lt (hi % 16) (k % 16) (fun z => h0 (fun q => ?_)) (fun z4 => h1 ⟨z1, z2, z3, z4⟩) (qp_r16 (by omega)) (qp_r16 (by omega))))) (qp_r16 (by omega)) (qp_r16 (by omega))))) (qp_d16 (by omega)) (qp_d16 (by omega))))) (qp_d16 (by omega)) (qp_d16 (by omega))))
  · unfold qp_ins at q; omega
  · unfold qp_ins at q; omega
  · unfold qp_ins at q; omega
  · unfold qp_ins at q; omega
/-- the sum that a count in a frame is -/
noncomputable def qp_g (f : Nat → Int32) (p lo hi k : Nat) : Nat := if lo / 16 ≤ k / 16 ∧ k / 16 ≤ hi / 16 ∧ lo % 16 ≤ k % 16 ∧ k % 16 ≤ hi % 16 then qp_w (f (256 * p + k)) else 0
theorem qp_g_in {f : Nat → Int32} {p lo hi k : Nat} (h : qp_ins lo hi k) : qp_g f p lo hi k = qp_w (f (256 * p + k)) := if_pos h
theorem qp_g_out {f : Nat → Int32} {p lo hi k : Nat} (h : ¬ qp_ins lo hi k) : qp_g f p lo hi k = 0 := if_neg h
/-- X's inner counting loop -/
theorem qp_c24 {post : Int32 → Prop} {J : Int32 → Int32 → Prop} {f d l : Nat → Int32} {p lo hi x : Nat} (hp : p < 3) (hl : lo < 256) (hh : hi < 256) (hx1 : lo / 16 ≤ x) (hx2 : x ≤ hi / 16) (hr : lo % 16 ≤ hi % 16) (h : J (nI (qp_s (qp_g f p lo hi) (16 * x + (hi % 16 + 1)))) (nI (x + 1))) :
    ∃ n, wX_countIn_24 post J (nI p) (nI lo) (nI hi) (nI x) f d l n (nI (qp_s (qp_g f p lo hi) (16 * x + lo % 16))) (nI (lo % 16)) := by
  refine qp_le (fun n y => wX_countIn_24 post J (nI p) (nI lo) (nI hi) (nI x) f d l n (nI (qp_s (qp_g f p lo hi) (16 * x + y))) (nI y)) (lo % 16) (hi % 16 + 1) (by omega) ?_ ?_
  · intro n
    refine And.intro qp_n16 (br_t ?_ (nm_r (nI_1 x) h))
    rw [qp_r16 (by omega)]
    exact nI_lt (by omega) (by omega)
  · intro n y h1 h2 W
    have hb : ¬ (nI hi - nI hi / 16 * 16) < nI y := by
      rw [qp_r16 (by omega)]
      exact nI_nlt (by omega) (by omega)
    have ei : (256 * nI p + 16 * nI x + nI y).toNatClampNeg = 256 * p + (16 * x + y) := by
      rw [qp_i2, nI_clamp (by omega)]; omega
    have eg : qp_s (qp_g f p lo hi) (16 * x + (y + 1)) = qp_s (qp_g f p lo hi) (16 * x + y) + qp_w (f (256 * p + (16 * x + y))) := by
      rw [← Nat.add_assoc, qp_s1, qp_g_in]
      unfold qp_ins; omega
    refine And.intro qp_n16 (br_f hb (And.intro ?_ ?_))
    · rw [qp_i2]; exact vp_in_nI (by omega) (by decide)
    · rw [ei]
      refine br_c (fun z => nm_r (nI_1 y) ?_) (fun z => nm_r (nI_1 _) (nm_r (nI_1 y) ?_))
      · rw [eg, qp_w0 z] at W; exact W
      · rw [eg, qp_w1 z] at W; exact W
theorem qp_cx {post : Int32 → Prop} {f d l : Nat → Int32} {p lo hi : Nat} (hp : p < 3) (hl : lo < 256) (hh : hi < 256) (hq : lo / 16 ≤ hi / 16) (hr : lo % 16 ≤ hi % 16) (h : post (nI (qp_s (qp_g f p lo hi) 256))) :
    wpX_countIn post (f, d, l) (nI p) (nI lo) (nI hi) := by
  refine And.intro qp_n16 (nm_r (qp_d16 (by omega)) ?_)
  have key : ∃ n, wX_countIn_9 post (nI p) (nI lo) (nI hi) f d l n (nI (qp_s (qp_g f p lo hi) (16 * (lo / 16)))) (nI (lo / 16)) := by
    refine qp_le (fun n x => wX_countIn_9 post (nI p) (nI lo) (nI hi) f d l n (nI (qp_s (qp_g f p lo hi) (16 * x))) (nI x)) (lo / 16) (hi / 16 + 1) (by omega) ?_ ?_
    · intro n
      refine And.intro qp_n16 (br_t ?_ ?_)
      · rw [qp_d16 (by omega)]; exact nI_lt (by omega) (by omega)
      · rw [qp_s_skip (a := 16 * (hi / 16 + 1)) (b := 256) (by omega) (fun k h1 h2 => qp_g_out (by unfold qp_ins; omega))] at h
        exact h
    · intro n x h1 h2 W
      refine And.intro qp_n16 (br_f ?_ (And.intro qp_n16 (nm_r (qp_r16 (by omega)) ?_)))
      · rw [qp_d16 (by omega)]; exact nI_nlt (by omega) (by omega)
      · have e1 : qp_s (qp_g f p lo hi) (16 * x + lo % 16) = qp_s (qp_g f p lo hi) (16 * x) := qp_s_skip (by omega) (fun k h1 h2 => qp_g_out (by unfold qp_ins; omega))
        have e2 : qp_s (qp_g f p lo hi) (16 * (x + 1)) = qp_s (qp_g f p lo hi) (16 * x + (hi % 16 + 1)) := qp_s_skip (by omega) (fun k h1 h2 => qp_g_out (by unfold qp_ins; omega))
        rw [← e1]
        refine qp_c24 hp hl hh h1 (by omega) hr ?_
        rw [← e2]; exact W
  have e0 : qp_s (qp_g f p lo hi) (16 * (lo / 16)) = 0 := by
    rw [qp_s_skip (a := 0) (b := 16 * (lo / 16)) (by omega) (fun k h1 h2 => qp_g_out (by unfold qp_ins; omega))]; rfl
  rw [e0] at key
  exact key
/-- the number of set points -/
def qp_n (f : Nat → Int32) (p : Nat) : Nat := qp_s (fun k => qp_w (f (256 * p + k))) 256
theorem qp_cxa {post : Int32 → Prop} {f d l : Nat → Int32} {p : Nat} (hp : p < 3) (h : post (nI (qp_n f p))) : wpX_countIn post (f, d, l) (nI p) 0 255 := by
  refine qp_cx (lo := 0) (hi := 255) hp (by decide) (by decide) (by decide) (by decide) ?_
  rw [qp_s_congr (h := fun k => qp_w (f (256 * p + k))) 256 (fun k hk => qp_g_in (by unfold qp_ins; omega))]
  exact h
theorem qp_cy {post : Int32 → Prop} {f d l : Nat → Int32} {p : Nat} (hp : p < 3) (h : post (nI (qp_n f p))) : wpY_count post (f, d, l) (nI p) := by
  refine qp_le (fun n i => wY_count_4 post (nI p) f d l n (nI (qp_s (fun k => qp_w (f (256 * p + k))) i)) (nI i)) 0 256 (by omega) ?_ ?_
  · intro n
    exact br_t (nI_le (a := 256) (by omega) (by decide)) h
  · intro n i h1 h2 W
    refine br_f (nI_ge (b := 256) h2 (by decide)) (And.intro ?_ ?_)
    · rw [qp_i1]; exact vp_in_nI (by omega) (by decide)
    · rw [qp_i1, nI_clamp (by omega)]
      rw [qp_s1] at W
      refine br_c (fun z => nm_r (nI_1 i) ?_) (fun z => nm_r (nI_1 _) (nm_r (nI_1 i) ?_))
      · rw [qp_w0 z] at W; exact W
      · rw [qp_w1 z] at W; exact W
theorem qp_cyi {post : Int32 → Prop} {f d l : Nat → Int32} {p lo hi : Nat} (hp : p < 3) (hl : lo < 256) (hh : hi < 256) (h : post (nI (qp_s (qp_g f p lo hi) 256))) : ∃ n, wY_areaIn_28 post (nI p) (nI lo) (nI hi) f d l n 0 0 := by
  refine qp_le (fun n i => wY_areaIn_28 post (nI p) (nI lo) (nI hi) f d l n (nI (qp_s (qp_g f p lo hi) i)) (nI i)) 0 256 (by omega) ?_ ?_
  · intro n
    exact br_t (nI_le (a := 256) (by omega) (by decide)) h
  · intro n i h1 h2 W
    refine br_f (nI_ge (b := 256) h2 (by decide)) (qp_insy h2 hl hh ?_ ?_)
    · intro hi
      refine br_f qp_10 (And.intro ?_ ?_)
      · rw [qp_i1]; exact vp_in_nI (by omega) (by decide)
      · rw [qp_i1, nI_clamp (by omega)]
        rw [qp_s1, qp_g_in hi] at W
        refine br_c (fun z => nm_r (nI_1 i) ?_) (fun z => nm_r (nI_1 _) (nm_r (nI_1 i) ?_))
        · rw [qp_w0 z] at W; exact W
        · rw [qp_w1 z] at W; exact W
    · intro hi
      refine br_t rfl (nm_r (nI_1 i) ?_)
      rw [qp_s1, qp_g_out hi] at W
      exact W
