/-! regions: closed sets of points, labels, leaders -/
def qp_cl (f : Nat → Int32) (p : Nat) (C : Nat → Prop) : Prop := ∀ k, k < 256 → ¬ f (256 * p + k) = 0 → (k < 240 → ¬ f (256 * p + (k + 16)) = 0 → (C k ↔ C (k + 16))) ∧ (k % 16 < 15 → ¬ f (256 * p + (k + 1)) = 0 → (C k ↔ C (k + 1)))
/-- equal labels: in the same closed sets -/
def qp_LB (f : Nat → Int32) (p : Nat) (l : Nat → Int32) : Prop := ∀ C : Nat → Prop, qp_cl f p C → ∀ i j, i < 256 → j < 256 → l i = l j → (C i ↔ C j)
theorem qp_clS (f : Nat → Int32) (p : Nat) : qp_cl f p (fun k => ¬ f (256 * p + k) = 0) := fun k _ h => ⟨fun _ h' => ⟨fun _ => h', fun _ => h⟩, fun _ h' => ⟨fun _ => h', fun _ => h⟩⟩
/-- the first point of its label -/
abbrev qp_L (f : Nat → Int32) (p : Nat) (l : Nat → Int32) (k : Nat) : Prop := ¬ f (256 * p + k) = 0 ∧ ∀ j, j < k → ¬ l j = l k
def qp_ld (f : Nat → Int32) (p : Nat) (l : Nat → Int32) (k : Nat) : Nat := if qp_L f p l k then 1 else 0
theorem qp_ld1 {f : Nat → Int32} {p : Nat} {l : Nat → Int32} {k : Nat} (h : qp_L f p l k) : qp_ld f p l k = 1 := if_pos h
theorem qp_ld0 {f : Nat → Int32} {p : Nat} {l : Nat → Int32} {k : Nat} (h : ¬ qp_L f p l k) : qp_ld f p l k = 0 := if_neg h
theorem qp_ldc {f : Nat → Int32} {p : Nat} {l l' : Nat → Int32} {k : Nat} (h : qp_L f p l k ↔ qp_L f p l' k) : qp_ld f p l k = qp_ld f p l' k := by
  by_cases c : qp_L f p l k
  · rw [qp_ld1 c, qp_ld1 (h.mp c)]
  · rw [qp_ld0 c, qp_ld0 (fun z => c (h.mpr z))]
def qp_N (f : Nat → Int32) (p : Nat) (l : Nat → Int32) : Nat := qp_s (qp_ld f p l) 256
theorem qp_first (l : Nat → Int32) (a : Nat) : ∃ m, m ≤ a ∧ l m = l a ∧ ∀ j, j < m → ¬ l j = l a := by
  have H : ∀ n, (∃ m, m ≤ n ∧ l m = l a ∧ ∀ j, j < m → ¬ l j = l a) ∨ (∀ j, j ≤ n → ¬ l j = l a) := by
    intro n
    induction n with
    | zero =>
      by_cases c : l 0 = l a
      · exact Or.inl ⟨0, Nat.le_refl 0, c, fun j hj => absurd hj (Nat.not_lt_zero j)⟩
      · exact Or.inr (fun j hj => by have e : j = 0 := by omega
                                     rw [e]; exact c)
    | succ n ih =>
      rcases ih with ⟨m, h1, h2, h3⟩ | h
      · exact Or.inl ⟨m, by omega, h2, h3⟩
      · by_cases c : l (n + 1) = l a
        · exact Or.inl ⟨n + 1, Nat.le_refl _, c, fun j hj => h j (by omega)⟩
        · refine Or.inr (fun j hj => ?_)
          by_cases e : j = n + 1
          · rw [e]; exact c
          · exact h j (by omega)
  rcases H a with h | h
  · exact h
  · exact absurd rfl (h a (Nat.le_refl a))
/-- one label given up: one leader fewer -/
theorem qp_merge {f : Nat → Int32} {p : Nat} {l l' : Nat → Int32} {a b : Nat} (ha : a < 256) (hb : b < 256) (hSa : ¬ f (256 * p + a) = 0) (hSb : ¬ f (256 * p + b) = 0) (hB : qp_LB f p l) (hab : ¬ l a = l b) (hl : ∀ i, i < 256 → l' i = if l i = l b then l a else l i) : qp_N f p l = qp_N f p l' + 1 := by
  obtain ⟨A, hA1, hA2, hA3⟩ := qp_first l a
  obtain ⟨B, hB1, hB2, hB3⟩ := qp_first l b
  have hSA : ¬ f (256 * p + A) = 0 := (hB _ (qp_clS f p) A a (by omega) ha hA2).mpr hSa
  have hSB : ¬ f (256 * p + B) = 0 := (hB _ (qp_clS f p) B b (by omega) hb hB2).mpr hSb
  have hAB : A ≠ B := by
    intro e
    rw [e] at hA2
    exact hab (hA2.symm.trans hB2)
  have l1 : ∀ i, i < 256 → l i = l b → l' i = l a := fun i hi e => by rw [hl i hi, if_pos e]
  have l2 : ∀ i, i < 256 → ¬ l i = l b → l' i = l i := fun i hi e => by rw [hl i hi, if_neg e]
  have l3 : ∀ i, i < 256 → l i = l a → l' i = l a := fun i hi e => by
    rw [l2 i hi (fun z => hab (e.symm.trans z)), e]
  have l4 : ∀ i, i < 256 → l' i = l a → l i = l a ∨ l i = l b := fun i hi e => by
    by_cases c : l i = l b
    · exact Or.inr c
    · rw [l2 i hi c] at e; exact Or.inl e
  -- the others
  have other : ∀ k, k < 256 → k ≠ A → k ≠ B → (qp_L f p l k ↔ qp_L f p l' k) := by
    intro k hk nA nB
    by_cases ca : l k = l a
    · constructor
      · intro h
        by_cases c : A < k
        · exact absurd (hA2.trans ca.symm) (h.2 A c)
        · exact absurd ca (hA3 k (by omega))
      · intro h
        by_cases c : A < k
        · exact absurd ((l3 A (by omega) hA2).trans (l3 k hk ca).symm) (h.2 A c)
        · exact absurd ca (hA3 k (by omega))
    · by_cases cb : l k = l b
      · constructor
        · intro h
          by_cases c : B < k
          · exact absurd (hB2.trans cb.symm) (h.2 B c)
          · exact absurd cb (hB3 k (by omega))
        · intro h
          by_cases c : B < k
          · exact absurd ((l1 B (by omega) hB2).trans (l1 k hk cb).symm) (h.2 B c)
          · exact absurd cb (hB3 k (by omega))
      · have ek : l' k = l k := l2 k hk cb
        constructor
        · intro h
          refine ⟨h.1, fun j hj e => ?_⟩
          rw [ek] at e
          by_cases c : l j = l b
          · rw [l1 j (by omega) c] at e; exact ca e.symm
          · rw [l2 j (by omega) c] at e; exact h.2 j hj e
        · intro h
          refine ⟨h.1, fun j hj e => h.2 j hj ?_⟩
          rw [ek, l2 j (by omega) (fun z => cb (e.symm.trans z)), e]
  have LA : qp_L f p l A := ⟨hSA, fun j hj e => hA3 j hj (e.trans hA2)⟩
  have LB : qp_L f p l B := ⟨hSB, fun j hj e => hB3 j hj (e.trans hB2)⟩
  unfold qp_N
  rcases Nat.lt_or_gt_of_ne hAB with h | h
  · -- A first: B goes
    have nB : ¬ qp_L f p l' B := fun z => z.2 A h ((l3 A (by omega) hA2).trans (l1 B (by omega) hB2).symm)
    have yA : qp_L f p l' A := by
      refine ⟨hSA, fun j hj e => ?_⟩
      rw [l3 A (by omega) hA2] at e
      rcases l4 j (by omega) e with q | q
      · exact hA3 j hj q
      · exact hB3 j (by omega) q
    refine qp_s_one (m := B) 256 (by omega) (fun k hk hne => ?_) ?_
    · by_cases c : k = A
      · rw [c, qp_ld1 LA, qp_ld1 yA]
      · exact qp_ldc (other k hk c hne)
    · rw [qp_ld1 LB, qp_ld0 nB]
  · have nA : ¬ qp_L f p l' A := fun z => z.2 B h ((l1 B (by omega) hB2).trans (l3 A (by omega) hA2).symm)
    have yB : qp_L f p l' B := by
      refine ⟨hSB, fun j hj e => ?_⟩
      rw [l1 B (by omega) hB2] at e
      rcases l4 j (by omega) e with q | q
      · exact hA3 j (by omega) q
      · exact hB3 j hj q
    refine qp_s_one (m := A) 256 (by omega) (fun k hk hne => ?_) ?_
    · by_cases c : k = B
      · rw [c, qp_ld1 LB, qp_ld1 yB]
      · exact qp_ldc (other k hk hne c)
    · rw [qp_ld1 LA, qp_ld0 nA]
theorem qp_mergeB {f : Nat → Int32} {p : Nat} {l l' : Nat → Int32} {a b : Nat} (ha : a < 256) (hb : b < 256) (hE : ∀ C : Nat → Prop, qp_cl f p C → (C a ↔ C b)) (hB : qp_LB f p l) (hl : ∀ i, i < 256 → l' i = if l i = l b then l a else l i) : qp_LB f p l' := by
  intro C hC i j hi hj e
  have hab := hE C hC
  have r : ∀ i, i < 256 → l i = l b → (C i ↔ C b) := fun i hi q => hB C hC i b hi hb q
  rw [hl i hi, hl j hj] at e
  by_cases ci : l i = l b
  · by_cases cj : l j = l b
    · exact (r i hi ci).trans (r j hj cj).symm
    · rw [if_pos ci, if_neg cj] at e
      exact (r i hi ci).trans (hab.symm.trans (hB C hC a j ha hj e))
  · by_cases cj : l j = l b
    · rw [if_neg ci, if_pos cj] at e
      exact (hB C hC i a hi ha e).trans (hab.trans (r j hj cj).symm)
    · rw [if_neg ci, if_neg cj] at e
      exact hB C hC i j hi hj e
/-- unite's loop -/
def qp_ur (l : Nat → Int32) (g : Int32) (j : Nat) : Nat := if l j = g ∧ j < 256 then j else 256
def qp_U (l : Nat → Int32) (c g : Int32) (k : Nat) : Nat → Int32 := qp_a l (fun _ => c) (qp_ur l g) k
theorem qp_U_rd {l : Nat → Int32} {c g : Int32} {k : Nat} (hk : k < 256) : qp_U l c g k k = l k := qp_a_rd (by unfold qp_ur; split <;> omega)
theorem qp_U_in {l : Nat → Int32} {c g : Int32} {i : Nat} (hi : i < 256) : qp_U l c g 256 i = if l i = g then c else l i := by
  by_cases e : l i = g
  · rw [if_pos e]
    exact qp_a_wr (by unfold qp_ur; rw [if_pos ⟨e, hi⟩]; exact hi)
  · rw [if_neg e]
    exact qp_a_rd (by unfold qp_ur; rw [if_neg (fun q => e q.1)]; omega)
theorem qp_u26 {post : Int32 → SX → Prop} {f d l : Nat → Int32} {c g : Int32} (h : post 1 (f, d, qp_U l c g 256)) : ∃ n, wX_unite_26 post c g n 0 f d l := by
  refine qp_le (fun n i => wX_unite_26 post c g n (nI i) f d (qp_U l c g i)) 0 256 (by omega) ?_ ?_
  · intro n; exact br_t qp_ge256 h
  · intro n i h1 h2 W
    refine br_f (qp_nge h2) (And.intro (vp_in_nI h2 (by decide)) ?_)
    rw [qp_e0 h2, qp_U_rd h2]
    refine br_c (fun z => And.intro (vp_in_nI h2 (by decide)) (nm_r (e' := qp_U l c g (i + 1)) (qp_a_st ?_ rfl) (nm_r (nI_1 i) W))) (fun z => nm_r (nI_1 i) ?_)
    · intro j
      unfold qp_ur
      constructor
      · intro q; split at q <;> omega
      · rintro rfl
        rw [if_pos ⟨z, h2⟩]
    · have e : qp_U l c g (i + 1) = qp_U l c g i := by
        refine qp_a_skip (by omega) ?_
        intro j
        unfold qp_ur
        by_cases c1 : l j = g ∧ j < 256
        · rw [if_pos c1]
          by_cases c2 : j = i
          · rw [c2] at c1; exact absurd c1.1 z
          · omega
        · rw [if_neg c1]; omega
      rw [e] at W; exact W
theorem qp_un {post : Int32 → SX → Prop} {f d l : Nat → Int32} {p a b : Nat} (ha : a < 256) (hb : b < 256) (hSa : ¬ f (256 * p + a) = 0) (hSb : ¬ f (256 * p + b) = 0) (hE : ∀ C : Nat → Prop, qp_cl f p C → (C a ↔ C b)) (hB : qp_LB f p l)
    (H : ∀ (l' : Nat → Int32) (r : Nat), qp_N f p l' + r = qp_N f p l → qp_LB f p l' → (∀ i j, i < 256 → j < 256 → l i = l j → l' i = l' j) → l' a = l' b → post (nI r) (f, d, l')) : wpX_unite post (f, d, l) (nI a) (nI b) := by
  refine And.intro (vp_in_nI ha (by decide)) ?_
  rw [qp_e0 ha, qp_e0 hb]
  refine nm_e (And.intro (vp_in_nI hb (by decide)) (nm_e (br_c (fun z => ?_) (fun z => qp_u26 ?_))))
  · exact H l 0 rfl hB (fun _ _ _ _ e => e) z
  · have hl : ∀ i, i < 256 → qp_U l (l a) (l b) 256 i = if l i = l b then l a else l i := fun i hi => qp_U_in hi
    refine H _ 1 (qp_merge ha hb hSa hSb hB z hl).symm (qp_mergeB ha hb hE hB hl) ?_ ?_
    · intro i j hi hj e
      rw [hl i hi, hl j hj, e]
    · rw [hl a ha, hl b hb, if_pos rfl, if_neg z]
