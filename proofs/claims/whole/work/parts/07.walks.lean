/-! counts of tiles; border; same, within, next -/
def qp_G (f : Nat → Int32) (p sz k : Nat) : Nat := if (k / 16 % qp_ts f p (k / 16) (k % 16) = 0 ∧ k % 16 % qp_ts f p (k / 16) (k % 16) = 0) ∧ (sz = 0 ∨ sz = qp_ts f p (k / 16) (k % 16)) then 1 else 0
theorem qp_bse {x t : Nat} (hx : x < 16) (ht : t < 5) : (nI x &&& (-(nI (2 ^ t))) = nI x) ↔ x % 2 ^ t = 0 := by
  rw [qp_bs x hx t ht]
  have h1 := Nat.div_add_mod' x (2 ^ t)
  have h2 := Nat.div_mul_le_self x (2 ^ t)
  rw [nI_eq (by omega) (by omega)]
  omega
theorem qp_ct16 {post : Int32 → Prop} {J : Int32 → Int32 → Prop} {f d l : Nat → Int32} {p ls gs sz x : Nat} (hf : qp_B f) (hp : p < 3) (hx : x < 16) (hl : ls < 2 ^ 31) (hg : gs < 2 ^ 31) (hw : ∀ t, t < 5 → ((ls ≤ 2 ^ t ∧ 2 ^ t ≤ gs) ↔ (sz = 0 ∨ sz = 2 ^ t))) (h : J (nI (qp_s (qp_G f p sz) (16 * (x + 1)))) (nI (x + 1))) :
    ∃ n, wX_countTiles_16 post J (nI p) (nI ls) (nI gs) (nI x) f d l n (nI (qp_s (qp_G f p sz) (16 * x))) 0 := by
  refine qp_le (fun n y => wX_countTiles_16 post J (nI p) (nI ls) (nI gs) (nI x) f d l n (nI (qp_s (qp_G f p sz) (16 * x + y))) (nI y)) 0 16 (by omega) ?_ ?_
  · intro n
    exact br_t qp_ge16 (nm_r (nI_1 x) h)
  · intro n y h1 h2 W
    refine br_f (qp_nge16 h2) (qp_tsx hf hp hx h2 ?_)
    have hG : qp_G f p sz (16 * x + y) = if (x % qp_ts f p x y = 0 ∧ y % qp_ts f p x y = 0) ∧ (sz = 0 ∨ sz = qp_ts f p x y) then 1 else 0 := by
      unfold qp_G
      rw [show (16 * x + y) / 16 = x by omega, show (16 * x + y) % 16 = y by omega]
    obtain ⟨t, ht, e⟩ := qp_ts2 f p x y
    rw [e] at hG ⊢
    have hs := qp_p2 ht
    have W0 : qp_G f p sz (16 * x + y) = 0 → wX_countTiles_16 post J (nI p) (nI ls) (nI gs) (nI x) f d l n (nI (qp_s (qp_G f p sz) (16 * x + y))) (nI (y + 1)) := by
      intro z
      have W' := W
      rw [← Nat.add_assoc, qp_s1, z] at W'
      exact W'
    have W1 : qp_G f p sz (16 * x + y) = 1 → wX_countTiles_16 post J (nI p) (nI ls) (nI gs) (nI x) f d l n (nI (qp_s (qp_G f p sz) (16 * x + y) + 1)) (nI (y + 1)) := by
      intro z
      have W' := W
      rw [← Nat.add_assoc, qp_s1, z] at W'
      exact W'
    have L50 : ¬ (ls ≤ 2 ^ t ∧ 2 ^ t ≤ gs) → wX_countTiles_50 post J (wX_countTiles_16 post J (nI p) (nI ls) (nI gs) (nI x) f d l n) (nI p) (nI ls) (nI gs) (nI (qp_s (qp_G f p sz) (16 * x + y))) (nI x) (nI y) (nI (2 ^ t)) f d l := by
      intro z
      unfold wX_countTiles_50 wX_countTiles_51
      refine br_t rfl (nm_r (nI_1 y) (W0 ?_))
      rw [hG, if_neg (fun q => z ((hw t ht).mpr q.2))]
    refine pk_lt (2 ^ t) ls (fun z => L50 (by omega)) (fun z1 => pk_lt gs (2 ^ t) (fun z => L50 (by omega)) (fun z2 => ?_) rfl rfl hg (by omega)) rfl rfl (by omega) hl
    have w := (hw t ht).mp ⟨z1, z2⟩
    unfold wX_countTiles_51 wpX_blockStart
    refine br_f qp_10 ?_
    refine br_c (fun c1 => br_c (fun c2 => nm_r (nI_1 _) (nm_r (nI_1 y) (W1 ?_))) (fun c2 => nm_r (nI_1 y) (W0 ?_))) (fun c1 => nm_r (nI_1 y) (W0 ?_))
    · rw [qp_bse hx ht] at c1; rw [qp_bse h2 ht] at c2
      rw [hG, if_pos ⟨⟨c1, c2⟩, w⟩]
    · rw [qp_bse h2 ht] at c2
      rw [hG, if_neg (fun q => c2 q.1.2)]
    · rw [qp_bse hx ht] at c1
      rw [hG, if_neg (fun q => c1 q.1.1)]
theorem qp_ctx {post : Int32 → Prop} {f d l : Nat → Int32} {p ls gs sz : Nat} (hf : qp_B f) (hp : p < 3) (hl : ls < 2 ^ 31) (hg : gs < 2 ^ 31) (hw : ∀ t, t < 5 → ((ls ≤ 2 ^ t ∧ 2 ^ t ≤ gs) ↔ (sz = 0 ∨ sz = 2 ^ t))) (h : post (nI (qp_s (qp_G f p sz) 256))) : wpX_countTiles post (f, d, l) (nI p) (nI ls) (nI gs) := by
  refine qp_le (fun n x => wX_countTiles_6 post (nI p) (nI ls) (nI gs) f d l n (nI (qp_s (qp_G f p sz) (16 * x))) (nI x)) 0 16 (by omega) ?_ ?_
  · intro n
    exact br_t qp_ge16 h
  · intro n x h1 h2 W
    exact br_f (qp_nge16 h2) (qp_ct16 hf hp h2 hl hg hw W)
theorem qp_w16 : ∀ t, t < 5 → ((1 ≤ 2 ^ t ∧ 2 ^ t ≤ 16) ↔ (0 = 0 ∨ 0 = 2 ^ t)) := by decide
theorem qp_cty {post : Int32 → Prop} {f d l : Nat → Int32} {p sz : Nat} (hp : p < 3) (hz : sz < 2 ^ 31) (h : post (nI (qp_s (qp_G f p sz) 256))) : wpY_tally post (f, d, l) (nI p) (nI sz) := by
  refine qp_le (fun n k => wY_tally_5 post (nI p) (nI sz) f d l n (nI (qp_s (qp_G f p sz) k)) (nI k)) 0 256 (by omega) ?_ ?_
  · intro n
    exact br_t qp_ge256 h
  · intro n k h1 h2 W
    refine br_f (qp_nge h2) (And.intro qp_n16 (And.intro qp_n16 ?_))
    rw [qp_d16 (by omega), show (nI k - nI (k / 16) * 16) = nI (k % 16) from by rw [← qp_d16 (by omega), qp_r16 (by omega)]]
    refine qp_tsy hp (by omega) (by omega) ?_
    have hG : qp_G f p sz k = if (k / 16 % qp_ts f p (k / 16) (k % 16) = 0 ∧ k % 16 % qp_ts f p (k / 16) (k % 16) = 0) ∧ (sz = 0 ∨ sz = qp_ts f p (k / 16) (k % 16)) then 1 else 0 := rfl
    obtain ⟨t, ht, e⟩ := qp_ts2 f p (k / 16) (k % 16)
    rw [e] at hG ⊢
    have hs := qp_p2 ht
    have hz0 : ¬ nI (2 ^ t) = 0 := nI_ne0 hs.1 (by omega)
    have W0 : qp_G f p sz k = 0 → wY_tally_5 post (nI p) (nI sz) f d l n (nI (qp_s (qp_G f p sz) k)) (nI (k + 1)) := by
      intro z
      have W' := W
      rw [qp_s1, z] at W'
      exact W'
    have W1 : qp_G f p sz k = 1 → wY_tally_5 post (nI p) (nI sz) f d l n (nI (qp_s (qp_G f p sz) k + 1)) (nI (k + 1)) := by
      intro z
      have W' := W
      rw [qp_s1, z] at W'
      exact W'
    have m1 : k / 16 % 2 ^ t < 2 ^ t := Nat.mod_lt _ hs.1
    have m2 : k % 16 % 2 ^ t < 2 ^ t := Nat.mod_lt _ hs.1
    refine And.intro qp_n16 (And.intro hz0 ?_)
    rw [pk_rem (by omega) hs.1 (by omega), pk_rem (by omega) hs.1 (by omega)]
    refine pk_eq _ 0 (fun c1 => And.intro qp_n16 (And.intro hz0 (pk_eq _ 0 (fun c2 => ?_) (fun c2 => ?_) rfl rfl (by omega) (by omega)))) (fun c1 => ?_) rfl rfl (by omega) (by omega)
    · unfold wY_tally_57
      refine br_f qp_10 (pk_eq sz 0 (fun c3 => nm_r (nI_1 _) (nm_r (nI_1 k) (W1 ?_))) (fun c3 => pk_eq sz (2 ^ t) (fun c4 => nm_r (nI_1 _) (nm_r (nI_1 k) (W1 ?_))) (fun c4 => nm_r (nI_1 k) (W0 ?_)) rfl rfl (by omega) (by omega)) rfl rfl (by omega) (by omega))
      · rw [hG, if_pos ⟨⟨c1, c2⟩, Or.inl c3⟩]
      · rw [hG, if_pos ⟨⟨c1, c2⟩, Or.inr c4⟩]
      · rw [hG, if_neg (fun q => q.2.elim c3 c4)]
    · unfold wY_tally_56 wY_tally_57
      refine br_t rfl (nm_r (nI_1 k) (W0 ?_))
      rw [hG, if_neg (fun q => c2 q.1.2)]
    · unfold wY_tally_56 wY_tally_57
      refine br_t rfl (nm_r (nI_1 k) (W0 ?_))
      rw [hG, if_neg (fun q => c1 q.1.1)]
/-- border -/
def qp_b1 (f : Nat → Int32) (p k : Nat) : Nat := if k < 240 ∧ ¬ f (256 * p + (k + 16)) = f (256 * p + k) then 1 else 0
def qp_b2 (f : Nat → Int32) (p k : Nat) : Nat := if k % 16 < 15 ∧ ¬ f (256 * p + (k + 1)) = f (256 * p + k) then 1 else 0
theorem qp_b1n {f : Nat → Int32} {p k : Nat} (h : ¬ (k < 240 ∧ ¬ f (256 * p + (k + 16)) = f (256 * p + k))) : qp_b1 f p k = 0 := if_neg h
theorem qp_b1y {f : Nat → Int32} {p k : Nat} (h : k < 240 ∧ ¬ f (256 * p + (k + 16)) = f (256 * p + k)) : qp_b1 f p k = 1 := if_pos h
theorem qp_b2n {f : Nat → Int32} {p k : Nat} (h : ¬ (k % 16 < 15 ∧ ¬ f (256 * p + (k + 1)) = f (256 * p + k))) : qp_b2 f p k = 0 := if_neg h
theorem qp_b2y {f : Nat → Int32} {p k : Nat} (h : k % 16 < 15 ∧ ¬ f (256 * p + (k + 1)) = f (256 * p + k)) : qp_b2 f p k = 1 := if_pos h
def qp_b (f : Nat → Int32) (p k : Nat) : Nat := qp_b1 f p k + qp_b2 f p k
theorem qp_bo22 {post : Int32 → Prop} {J : Int32 → Int32 → Prop} {f d l : Nat → Int32} {p x : Nat} (hf : qp_B f) (hp : p < 3) (hx : x < 16) (h : J (nI (qp_s (qp_b f p) (16 * (x + 1)))) (nI (x + 1))) :
    ∃ n, wX_border_22 post J (nI p) (nI x) f d l n (nI (qp_s (qp_b f p) (16 * x))) 0 := by
  refine qp_le (fun n y => wX_border_22 post J (nI p) (nI x) f d l n (nI (qp_s (qp_b f p) (16 * x + y))) (nI y)) 0 16 (by omega) ?_ ?_
  · intro n
    exact br_t qp_ge16 (nm_r (nI_1 x) h)
  · intro n y h1 h2 W
    rw [← Nat.add_assoc, qp_s1] at W
    have L : ∀ c, c = qp_s (qp_b f p) (16 * x + y) + qp_b1 f p (16 * x + y) → wX_border_63 post J (wX_border_22 post J (nI p) (nI x) f d l n) (nI p) (nI c) (nI x) (nI y) (f (256 * p + (16 * x + y))) f d l := by
      intro c hc
      unfold qp_b at W
      rw [← Nat.add_assoc] at W
      unfold qp_b at hc
      rw [← hc] at W
      unfold wX_border_63
      refine pk_le 15 y (fun z => nm_r (nI_1 y) ?_) (fun z => ?_) rfl rfl (by omega) (by omega)
      · rw [qp_b2n (by omega)] at W; exact W
      · rw [nI_1 y]
        refine qp_isx hf hp hx (by omega) (br_c (fun c => nm_e ?_) (fun c => nm_r (nI_1 _) (nm_e ?_)))
        · rw [qp_b2n (k := 16 * x + y) (fun q => q.2 c)] at W; exact W
        · rw [qp_b2y (k := 16 * x + y) ⟨by omega, c⟩] at W; exact W
    refine br_f (qp_nge16 h2) (qp_isx hf hp hx h2 ?_)
    refine pk_le 15 x (fun z => L _ ?_) (fun z => ?_) rfl rfl (by omega) (by omega)
    · rw [qp_b1n (by omega)]; rfl
    · rw [nI_1 x]
      refine qp_isx hf hp (by omega) h2 ?_
      rw [show 16 * (x + 1) + y = 16 * x + y + 16 by omega]
      refine br_c (fun c => L _ ?_) (fun c => nm_r (nI_1 _) (L _ ?_))
      · rw [qp_b1n (fun q => q.2 c)]; rfl
      · rw [qp_b1y ⟨by omega, c⟩]
theorem qp_box {post : Int32 → Prop} {f d l : Nat → Int32} {p : Nat} (hf : qp_B f) (hp : p < 3) (h : post (nI (qp_s (qp_b f p) 256))) : ∃ n, wX_border_13 post (nI p) f d l n 0 0 := by
  refine qp_le (fun n x => wX_border_13 post (nI p) f d l n (nI (qp_s (qp_b f p) (16 * x))) (nI x)) 0 16 (by omega) ?_ ?_
  · intro n
    exact br_t qp_ge16 h
  · intro n x h1 h2 W
    exact br_f (qp_nge16 h2) (qp_bo22 hf hp h2 W)
theorem qp_boy {post : Int32 → Prop} {f d l : Nat → Int32} {p : Nat} (hp : p < 3) (h : post (nI (qp_s (qp_b f p) 256))) : ∃ n, wY_border_14 post (nI p) f d l n 0 0 := by
  refine qp_le (fun n k => wY_border_14 post (nI p) f d l n (nI (qp_s (qp_b f p) k)) (nI k)) 0 256 (by omega) ?_ ?_
  · intro n
    exact br_t qp_ge256 h
  · intro n k h1 h2 W
    rw [qp_s1] at W
    have L : ∀ c, c = qp_s (qp_b f p) k + qp_b1 f p k → wY_border_65 post (wY_border_14 post (nI p) f d l n) (nI p) (nI c) (nI k) (f (256 * p + k)) f d l := by
      intro c hc
      unfold qp_b at W
      rw [← Nat.add_assoc] at W
      unfold qp_b at hc
      rw [← hc] at W
      unfold wY_border_65
      refine And.intro qp_n16 (pk_le 15 (k % 16) (fun z => nm_r (nI_1 k) ?_) (fun z => ?_) rfl (qp_r16 (by omega)) (by omega) (by omega))
      · rw [qp_b2n (by omega)] at W; exact W
      · rw [qp_i1, nI_1]
        refine And.intro (vp_in_nI (by omega) (by decide)) ?_
        rw [nI_clamp (by omega), Nat.add_assoc]
        refine br_c (fun c => nm_r (nI_1 k) ?_) (fun c => nm_r (nI_1 _) (nm_r (nI_1 k) ?_))
        · rw [qp_b2n (fun q => q.2 c.symm)] at W; exact W
        · rw [qp_b2y ⟨by omega, fun q => c q.symm⟩] at W; exact W
    refine br_f (qp_nge h2) (And.intro (qp_v1 hp h2) ?_)
    rw [qp_e1 hp h2]
    refine nm_e (pk_le 240 k (fun z => L _ ?_) (fun z => ?_) rfl rfl (by omega) (by omega))
    · rw [qp_b1n (by omega)]; rfl
    · rw [qp_i1, show (16 : Int32) = nI 16 from rfl, nI_add]
      refine And.intro (vp_in_nI (by omega) (by decide)) ?_
      rw [nI_clamp (by omega), Nat.add_assoc]
      refine br_c (fun c => L _ ?_) (fun c => nm_r (nI_1 _) (L _ ?_))
      · rw [qp_b1n (fun q => q.2 c.symm)]; rfl
      · rw [qp_b1y ⟨by omega, fun q => c q.symm⟩]
/-- same, within, next: in lockstep -/
theorem qp_same {f d l h s : Nat → Int32} {p q : Nat} (hp : p < 3) (hq : q < 3) : ∀ m k, k + m = 256 → ∃ r : Int32, (∀ post : Int32 → Prop, post r → wX_same_18 post (nI p) (nI q) f d l (m + 1) (nI k)) ∧ (∀ post : Int32 → Prop, post r → wY_same_20 post (nI p) (nI q) f h s (m + 1) (nI k)) := by
  intro m
  induction m with
  | zero =>
    intro k hk
    have hk' : k = 256 := hk
    subst hk'
    exact ⟨1, fun _ hP => br_t qp_ge256 hP, fun _ hP => br_t qp_ge256 hP⟩
  | succ m ih =>
    intro k hk
    have h2 : k < 256 := by omega
    by_cases z : f (256 * nI p + nI k).toNatClampNeg = f (256 * nI q + nI k).toNatClampNeg
    · obtain ⟨r, hX, hY⟩ := ih (k + 1) (by omega)
      exact ⟨r, fun post hP => br_f (qp_nge h2) (And.intro (qp_v1 hp h2) (And.intro (qp_v1 hq h2) (br_t z (nm_r (nI_1 k) (hX post hP))))), fun post hP => br_f (qp_nge h2) (And.intro (qp_v1 hp h2) (And.intro (qp_v1 hq h2) (br_t z (nm_r (nI_1 k) (hY post hP)))))⟩
    · exact ⟨0, fun post hP => br_f (qp_nge h2) (And.intro (qp_v1 hp h2) (And.intro (qp_v1 hq h2) (br_f z hP))), fun post hP => br_f (qp_nge h2) (And.intro (qp_v1 hp h2) (And.intro (qp_v1 hq h2) (br_f z hP)))⟩
theorem qp_within {f d l h s : Nat → Int32} {p q : Nat} (hp : p < 3) (hq : q < 3) : ∀ m k, k + m = 256 → ∃ r : Int32, (∀ post : Int32 → Prop, post r → wX_within_18 post (nI p) (nI q) f d l (m + 1) (nI k)) ∧ (∀ post : Int32 → Prop, post r → wY_within_20 post (nI p) (nI q) f h s (m + 1) (nI k)) := by
  intro m
  induction m with
  | zero =>
    intro k hk
    have hk' : k = 256 := hk
    subst hk'
    exact ⟨1, fun _ hP => br_t qp_ge256 hP, fun _ hP => br_t qp_ge256 hP⟩
  | succ m ih =>
    intro k hk
    have h2 : k < 256 := by omega
    obtain ⟨r, hX, hY⟩ := ih (k + 1) (by omega)
    by_cases z : f (256 * nI p + nI k).toNatClampNeg = 0
    · exact ⟨r, fun post hP => br_f (qp_nge h2) (And.intro (qp_v1 hp h2) (br_t z (nm_r (nI_1 k) (hX post hP)))), fun post hP => br_f (qp_nge h2) (And.intro (qp_v1 hp h2) (br_t z (nm_r (nI_1 k) (hY post hP))))⟩
    · by_cases w : f (256 * nI q + nI k).toNatClampNeg = 0
      · exact ⟨0, fun post hP => br_f (qp_nge h2) (And.intro (qp_v1 hp h2) (br_f z (And.intro (qp_v1 hq h2) (br_t w hP)))), fun post hP => br_f (qp_nge h2) (And.intro (qp_v1 hp h2) (br_f z (And.intro (qp_v1 hq h2) (br_t w hP))))⟩
      · exact ⟨r, fun post hP => br_f (qp_nge h2) (And.intro (qp_v1 hp h2) (br_f z (And.intro (qp_v1 hq h2) (br_f w (nm_r (nI_1 k) (hX post hP)))))), fun post hP => br_f (qp_nge h2) (And.intro (qp_v1 hp h2) (br_f z (And.intro (qp_v1 hq h2) (br_f w (nm_r (nI_1 k) (hY post hP))))))⟩
theorem qp_next {f d l h s : Nat → Int32} {p : Nat} {a : Int32} (hp : p < 3) : ∀ m k, k + m = 256 → ∃ r : Int32, (∀ post : Int32 → Prop, post r → wX_next_11 post (nI p) a f d l (m + 1) (nI k)) ∧ (∀ post : Int32 → Prop, post r → wY_next_12 post (nI p) a f h s (m + 1) (nI k)) := by
  intro m
  induction m with
  | zero =>
    intro k hk
    have hk' : k = 256 := hk
    subst hk'
    exact ⟨-2, fun _ hP => br_t qp_ge256 hP, fun _ hP => br_t qp_ge256 hP⟩
  | succ m ih =>
    intro k hk
    have h2 : k < 256 := by omega
    obtain ⟨r, hX, hY⟩ := ih (k + 1) (by omega)
    by_cases z : nI k ≤ a
    · exact ⟨r, fun post hP => br_f (qp_nge h2) (br_t z (nm_r (nI_1 k) (hX post hP))), fun post hP => br_f (qp_nge h2) (br_t z (nm_r (nI_1 k) (hY post hP)))⟩
    · by_cases w : f (256 * nI p + nI k).toNatClampNeg = 0
      · exact ⟨r, fun post hP => br_f (qp_nge h2) (br_f z (And.intro (qp_v1 hp h2) (br_t w (nm_r (nI_1 k) (hX post hP))))), fun post hP => br_f (qp_nge h2) (br_f z (And.intro (qp_v1 hp h2) (br_t w (nm_r (nI_1 k) (hY post hP)))))⟩
      · exact ⟨nI k, fun post hP => br_f (qp_nge h2) (br_f z (And.intro (qp_v1 hp h2) (br_f w hP))), fun post hP => br_f (qp_nge h2) (br_f z (And.intro (qp_v1 hp h2) (br_f w hP)))⟩
