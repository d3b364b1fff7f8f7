/-! regions: Y's walk -/
def qp_M (s : Nat → Int32) (k : Nat) : Prop := (15 < k ∧ ¬ s (k - 16) = 0) ∨ (k < 240 ∧ ¬ s (k + 16) = 0) ∨ (0 < k % 16 ∧ ¬ s (k - 1) = 0) ∨ (k % 16 < 15 ∧ ¬ s (k + 1) = 0)
theorem qp_met {post : Int32 → Prop} {f h s : Nat → Int32} {k : Nat} (hk : k < 256) (h1 : qp_M s k → post 1) (h0 : ¬ qp_M s k → post 0) : wpY_met post (f, h, s) (nI k) := by
  have D : (¬ (15 < k ∧ ¬ s (k - 16) = 0)) → ¬ (k < 240 ∧ ¬ s (k + 16) = 0) → ¬ (0 < k % 16 ∧ ¬ s (k - 1) = 0) → wY_met_57 post (nI k) f h s := by
    intro n1 n2 n3
    unfold wY_met_57
    refine And.intro qp_n16 (pk_le 15 (k % 16) (fun z => h0 (fun q => ?_)) (fun z => ?_) rfl (qp_r16 (by omega)) (by omega) (by omega))
    · rcases q with q | q | q | q
      · exact n1 q
      · exact n2 q
      · exact n3 q
      · omega
    · rw [nI_1 k]
      refine And.intro (vp_in_nI (by omega) (by decide)) ?_
      rw [nI_clamp (by omega)]
      refine br_c (fun c => h0 (fun q => ?_)) (fun c => h1 (Or.inr (Or.inr (Or.inr ⟨z, c⟩))))
      rcases q with q | q | q | q
      · exact n1 q
      · exact n2 q
      · exact n3 q
      · exact q.2 c
  have Cc : (¬ (15 < k ∧ ¬ s (k - 16) = 0)) → ¬ (k < 240 ∧ ¬ s (k + 16) = 0) → wY_met_39 post (nI k) f h s := by
    intro n1 n2
    unfold wY_met_39
    refine And.intro qp_n16 (pk_le (k % 16) 0 (fun z => D n1 n2 (by omega)) (fun z => ?_) (qp_r16 (by omega)) rfl (by omega) (by omega))
    rw [show (1 : Int32) = nI 1 from rfl, pk_sub (by omega)]
    refine And.intro (vp_in_nI (by omega) (by decide)) ?_
    rw [nI_clamp (by omega)]
    exact br_c (fun c => D n1 n2 (fun q => q.2 c)) (fun c => h1 (Or.inr (Or.inr (Or.inl ⟨z, c⟩))))
  have Bb : (¬ (15 < k ∧ ¬ s (k - 16) = 0)) → wY_met_18 post (nI k) f h s := by
    intro n1
    unfold wY_met_18
    refine pk_le 240 k (fun z => Cc n1 (by omega)) (fun z => ?_) rfl rfl (by omega) (by omega)
    rw [show (16 : Int32) = nI 16 from rfl, nI_add]
    refine And.intro (vp_in_nI (by omega) (by decide)) ?_
    rw [nI_clamp (by omega)]
    exact br_c (fun c => Cc n1 (fun q => q.2 c)) (fun c => h1 (Or.inr (Or.inl ⟨z, c⟩)))
  refine pk_le k 15 (fun z => Bb (by omega)) (fun z => ?_) rfl rfl (by omega) (by omega)
  rw [show (16 : Int32) = nI 16 from rfl, pk_sub (by omega)]
  refine And.intro (vp_in_nI (by omega) (by decide)) ?_
  rw [nI_clamp (by omega)]
  exact br_c (fun c => Bb (fun q => q.2 c)) (fun c => h1 (Or.inl ⟨z, c⟩))
/-- the number of seen points -/
def qp_k (s : Nat → Int32) : Nat := qp_s (fun j => qp_w (s j)) 256
theorem qp_k_bd (s : Nat → Int32) : qp_k s ≤ 256 := by
  have := qp_s_bd (g := fun j => qp_w (s j)) (c := 1) 256 (fun k _ => by unfold qp_w; split <;> omega)
  unfold qp_k; omega
theorem qp_k_up {s : Nat → Int32} {k : Nat} (hk : k < 256) (h : s k = 0) : qp_k (upd s k 1) = qp_k s + 1 := by
  refine qp_s_one (m := k) 256 hk (fun j _ hne => ?_) ?_
  · rw [pk_un hne]
  · rw [pk_us, qp_w1 qp_10, qp_w0 h]
theorem qp_k_1 {s : Nat → Int32} {k : Nat} (hk : k < 256) (h : ¬ s k = 0) : 1 ≤ qp_k s := by
  have := qp_s_lt (g := fun _ => 0) (h := fun j => qp_w (s j)) (m := k) 256 (fun _ _ => Nat.zero_le _) hk (by rw [qp_w1 h]; omega)
  unfold qp_k; omega
/-- a point met by points of Q is in Q -/
theorem qp_MQ {f : Nat → Int32} {p : Nat} {Q : Nat → Prop} {s : Nat → Int32} {k : Nat} (hQ : qp_cl f p Q) (hQS : ∀ j, Q j → ¬ f (256 * p + j) = 0) (hs : ∀ j, j < 256 → ¬ s j = 0 → Q j) (hk : k < 256) (hS : ¬ f (256 * p + k) = 0) (hM : qp_M s k) : Q k := by
  rcases hM with ⟨c, z⟩ | ⟨c, z⟩ | ⟨c, z⟩ | ⟨c, z⟩
  · have q := hs (k - 16) (by omega) z
    have e : k - 16 + 16 = k := by omega
    have w := (hQ (k - 16) (by omega) (hQS _ q)).1 (by omega)
    rw [e] at w
    exact (w hS).mp q
  · have q := hs (k + 16) (by omega) z
    exact ((hQ k hk hS).1 c (hQS _ q)).mpr q
  · have q := hs (k - 1) (by omega) z
    have e : k - 1 + 1 = k := by omega
    have w := (hQ (k - 1) (by omega) (hQS _ q)).2 (by omega)
    rw [e] at w
    exact (w hS).mp q
  · have q := hs (k + 1) (by omega) z
    exact ((hQ k hk hS).2 c (hQS _ q)).mpr q
/-- nothing left to mark: closed -/
theorem qp_Mc {f : Nat → Int32} {p : Nat} {s : Nat → Int32} (h : ∀ k, k < 256 → ¬ f (256 * p + k) = 0 → s k = 0 → ¬ qp_M s k) : qp_cl f p (fun j => ¬ s j = 0) := by
  intro k hk hS
  constructor
  · intro c hS'
    constructor
    · intro z z'
      refine h (k + 16) (by omega) hS' z' (Or.inl ⟨by omega, ?_⟩)
      rw [Nat.add_sub_cancel]; exact z
    · intro z z'
      exact h k hk hS z' (Or.inr (Or.inl ⟨c, z⟩))
  · intro c hS'
    constructor
    · intro z z'
      refine h (k + 1) (by omega) hS' z' (Or.inr (Or.inr (Or.inl ⟨by omega, ?_⟩)))
      rw [Nat.add_sub_cancel]; exact z
    · intro z z'
      exact h k hk hS z' (Or.inr (Or.inr (Or.inr ⟨c, z⟩)))
/-- one round's inner walk: at step i, with the flag m and the marks s, begun at s0 -/
def qp_R (f : Nat → Int32) (p : Nat) (Q : Nat → Prop) (s0 : Nat → Int32) (i : Nat) (m : Int32) (s : Nat → Int32) : Prop :=
  (∀ j, j < 256 → ¬ s0 j = 0 → ¬ s j = 0) ∧ (∀ j, j < 256 → ¬ s j = 0 → Q j) ∧ (m = 0 → s = s0 ∧ ∀ k, k < i → k < 256 → ¬ f (256 * p + k) = 0 → s0 k = 0 → ¬ qp_M s0 k) ∧ (¬ m = 0 → qp_k s0 < qp_k s)
theorem qp_s20 {post : SY → Prop} {J : Int32 → Int32 → (Nat → Int32) → (Nat → Int32) → (Nat → Int32) → Prop} {f h s0 : Nat → Int32} {p r : Nat} {Q : Nat → Prop} (hp : p < 3) (hQ : qp_cl f p Q) (hQS : ∀ j, Q j → ¬ f (256 * p + j) = 0) (H : ∀ m s, qp_R f p Q s0 512 m s → J m (nI (r + 1)) f h s) :
    ∃ n, ∀ m s, qp_R f p Q s0 0 m s → wY_spread_20 post J (nI p) (nI r) n m 0 f h s := by
  refine qp_le (fun n i => ∀ m s, qp_R f p Q s0 i m s → wY_spread_20 post J (nI p) (nI r) n m (nI i) f h s) 0 512 (by omega) ?_ ?_
  · intro n m s hR
    exact br_t (nI_le (a := 512) (by omega) (by decide)) (nm_r (nI_1 r) (H m s hR))
  · intro n i _ hi W m s hR
    have L : ∀ k, k < 256 → (i < 256 → k = i) → wY_spread_47 post J (wY_spread_20 post J (nI p) (nI r) n) (nI p) m (nI r) (nI i) (nI k) f h s := by
      intro k hk hki
      -- nothing done at this step
      have N : (¬ f (256 * p + k) = 0 → s k = 0 → ¬ qp_M s k) → wY_spread_20 post J (nI p) (nI r) n m (nI (i + 1)) f h s := by
        intro z
        refine W m s ⟨hR.1, hR.2.1, fun e => ?_, hR.2.2.2⟩
        have q := hR.2.2.1 e
        refine ⟨q.1, fun k' h1 h2 h3 h4 => ?_⟩
        by_cases c : k' = i
        · have e2 : k' = k := by have := hki (by omega); omega
          rw [q.1] at z
          rw [e2] at h3 h4 ⊢
          exact z h3 h4
        · exact q.2 k' (by omega) h2 h3 h4
      unfold wY_spread_47
      refine And.intro (qp_v1 hp hk) ?_
      rw [qp_e1 hp hk, qp_e0 hk]
      refine br_c (fun z => nm_r (nI_1 i) (N (fun q => absurd z q))) (fun z => And.intro (vp_in_nI hk (by decide)) (br_c (fun c => ?_) (fun c => nm_r (nI_1 i) (N (fun _ q => absurd q c)))))
      refine qp_met hk (fun hM => br_f qp_10 (And.intro (vp_in_nI hk (by decide)) ?_)) (fun hM => br_t rfl (nm_r (nI_1 i) (N (fun _ _ => hM))))
      rw [qp_n1]
      refine nm_e (nm_r (nI_1 i) (W 1 _ ⟨?_, ?_, fun q => absurd q qp_10, fun _ => ?_⟩))
      · intro j hj hz
        by_cases e : j = k
        · rw [e, pk_us]; exact qp_10
        · rw [pk_un e]; exact hR.1 j hj hz
      · intro j hj hz
        by_cases e : j = k
        · rw [e]; exact qp_MQ hQ hQS hR.2.1 hk z hM
        · rw [pk_un e] at hz; exact hR.2.1 j hj hz
      · rw [qp_k_up hk c]
        by_cases e : m = 0
        · rw [(hR.2.2.1 e).1]; omega
        · have := hR.2.2.2 e; omega
    refine br_f (nI_ge (b := 512) hi (by decide)) (pk_le 256 i (fun z => ?_) (fun z => L i z (fun _ => rfl)) rfl rfl (by omega) (by omega))
    rw [show (511 : Int32) = nI 511 from rfl, pk_sub (by omega)]
    exact L (511 - i) (by omega) (fun q => by omega)
/-- the rounds -/
def qp_O (f : Nat → Int32) (p : Nat) (Q : Nat → Prop) (s0 : Nat → Int32) (r : Nat) (m : Int32) (s : Nat → Int32) : Prop :=
  (∀ j, j < 256 → ¬ s0 j = 0 → ¬ s j = 0) ∧ (∀ j, j < 256 → ¬ s j = 0 → Q j) ∧ (m = 0 → qp_cl f p (fun j => ¬ s j = 0)) ∧ (¬ m = 0 → r + 1 ≤ qp_k s)
theorem qp_spread {post : SY → Prop} {f h s0 : Nat → Int32} {p : Nat} {Q : Nat → Prop} (hp : p < 3) (hQ : qp_cl f p Q) (hQS : ∀ j, Q j → ¬ f (256 * p + j) = 0) (hs : ∀ j, j < 256 → ¬ s0 j = 0 → Q j) {a : Nat} (ha : a < 256) (hsa : ¬ s0 a = 0)
    (H : ∀ s, (∀ j, j < 256 → ¬ s0 j = 0 → ¬ s j = 0) → (∀ j, j < 256 → ¬ s j = 0 → Q j) → qp_cl f p (fun j => ¬ s j = 0) → post (f, h, s)) : wpY_spread post (f, h, s0) (nI p) := by
  have key : ∃ n, ∀ m s, qp_O f p Q s0 0 m s → wY_spread_4 post (nI p) n m (nI 0) f h s := by
    refine qp_le (fun n r => ∀ m s, qp_O f p Q s0 r m s → wY_spread_4 post (nI p) n m (nI r) f h s) 0 256 (by omega) ?_ ?_
    · intro n m s hO
      refine br_t qp_ge256 (H s hO.1 hO.2.1 ?_)
      by_cases e : m = 0
      · exact hO.2.2.1 e
      · have h1 := hO.2.2.2 e
        have h2 := qp_k_bd s
        omega
    · intro n r _ hr W m s hO
      refine br_f (qp_nge hr) (br_c (fun e => H s hO.1 hO.2.1 (hO.2.2.1 e)) (fun e => ?_))
      obtain ⟨n', hn⟩ := qp_s20 (post := post) (J := wY_spread_4 post (nI p) n) (f := f) (h := h) (s0 := s) (p := p) (r := r) (Q := Q) hp hQ hQS (fun m' s' hR => W m' s' ⟨fun j hj hz => hR.1 j hj (hO.1 j hj hz), hR.2.1, fun e' => by
        have q := hR.2.2.1 e'
        rw [q.1]
        exact qp_Mc (fun k hk => q.2 k (by omega) hk), fun e' => by
        have q := hR.2.2.2 e'
        have q2 := hO.2.2.2 e
        omega⟩)
      exact ⟨n', hn 0 s ⟨fun _ _ hz => hz, hO.2.1, fun _ => ⟨rfl, fun k hk => absurd hk (Nat.not_lt_zero k)⟩, fun q => absurd rfl q⟩⟩
  obtain ⟨n, hn⟩ := key
  exact ⟨n, hn 1 s0 ⟨fun _ _ hz => hz, hs, fun q => absurd q qp_10, fun _ => qp_k_1 ha hsa⟩⟩
/-- the flood, one region a leader -/
def qp_Fl (f : Nat → Int32) (p : Nat) (l : Nat → Int32) (k : Nat) (s : Nat → Int32) : Prop :=
  (∀ j, j < 256 → ¬ s j = 0 → ¬ f (256 * p + j) = 0 ∧ ∃ i, i < k ∧ l i = l j) ∧ (∀ i, i < k → ¬ f (256 * p + i) = 0 → ¬ s i = 0) ∧ qp_cl f p (fun j => ¬ s j = 0)
theorem qp_ry36 {post : Int32 → SY → Prop} {f h l : Nat → Int32} {p : Nat} (hp : p < 3) (hV : qp_V f p l 256) (H : ∀ s, post (nI (qp_N f p l)) (f, h, s)) :
    ∃ n, ∀ s, qp_Fl f p l 0 s → wY_regions_36 post (nI p) n 0 0 f h s := by
  refine qp_le (fun n k => ∀ s, qp_Fl f p l k s → wY_regions_36 post (nI p) n (nI (qp_s (qp_ld f p l) k)) (nI k) f h s) 0 256 (by omega) ?_ ?_
  · intro n s _
    exact br_t qp_ge256 (H s)
  · intro n k _ hk W s hF
    rw [qp_s1] at W
    refine br_f (qp_nge hk) (And.intro (qp_v1 hp hk) ?_)
    rw [qp_e1 hp hk, qp_e0 hk]
    have N : qp_ld f p l k = 0 → (¬ f (256 * p + k) = 0 → ¬ s k = 0) → wY_regions_36 post (nI p) n (nI (qp_s (qp_ld f p l) k)) (nI (k + 1)) f h s := by
      intro z z2
      rw [z] at W
      refine W s ⟨fun j hj hz => ?_, fun i hi hS => ?_, hF.2.2⟩
      · obtain ⟨q, i, hi, e⟩ := hF.1 j hj hz
        exact ⟨q, i, by omega, e⟩
      · by_cases e : i = k
        · rw [e] at hS ⊢; exact z2 hS
        · exact hF.2.1 i (by omega) hS
    refine br_c (fun z => nm_r (nI_1 k) (N (qp_ld0 (fun q => q.1 z)) (fun q => absurd z q))) (fun z => And.intro (vp_in_nI hk (by decide)) (br_c (fun c => And.intro (vp_in_nI hk (by decide)) ?_) (fun c => nm_r (nI_1 k) (N ?_ (fun _ => c)))))
    · rw [qp_n1]
      have hL : qp_L f p l k := by
        refine ⟨z, fun j hj e => ?_⟩
        have hSj : ¬ f (256 * p + j) = 0 := (hV.2 _ (qp_clS f p) j k (by omega) hk e).mpr z
        have h1 := hF.2.1 j hj hSj
        exact (hV.2 _ hF.2.2 j k (by omega) hk e).mp h1 c
      rw [qp_ld1 hL] at W
      refine nm_e (nm_r (nI_1 _) ?_)
      have hQ : qp_cl f p (fun j => ¬ f (256 * p + j) = 0 ∧ ∃ i, i < k + 1 ∧ l i = l j) := by
        intro t ht hS
        have q := hV.1 t ht
        constructor
        · intro c1 c2
          have e := q.1 c1 hS c2
          constructor
          · rintro ⟨_, i, hi, e2⟩
            exact ⟨c2, i, hi, e2.trans e⟩
          · rintro ⟨_, i, hi, e2⟩
            exact ⟨hS, i, hi, e2.trans e.symm⟩
        · intro c1 c2
          have e := q.2 c1 hS c2
          constructor
          · rintro ⟨_, i, hi, e2⟩
            exact ⟨c2, i, hi, e2.trans e⟩
          · rintro ⟨_, i, hi, e2⟩
            exact ⟨hS, i, hi, e2.trans e.symm⟩
      refine qp_spread (Q := fun j => ¬ f (256 * p + j) = 0 ∧ ∃ i, i < k + 1 ∧ l i = l j) hp hQ (fun j q => q.1) ?_ (a := k) hk (by rw [pk_us]; exact qp_10) ?_
      · intro j hj hz
        by_cases e : j = k
        · rw [e]; exact ⟨z, k, by omega, rfl⟩
        · rw [pk_un e] at hz
          obtain ⟨q, i, hi, e2⟩ := hF.1 j hj hz
          exact ⟨q, i, by omega, e2⟩
      · intro s2 m1 m2 m3
        refine nm_r (nI_1 k) (W s2 ⟨m2, fun i hi hS => ?_, m3⟩)
        refine m1 i (by omega) ?_
        by_cases e : i = k
        · rw [e, pk_us]; exact qp_10
        · rw [pk_un e]; exact hF.2.1 i (by omega) hS
    · refine qp_ld0 (fun q => ?_)
      obtain ⟨_, i, hi, e⟩ := hF.1 k hk c
      exact q.2 i hi e
theorem qp_ry {post : Int32 → SY → Prop} {f h s l : Nat → Int32} {p : Nat} (hp : p < 3) (hV : qp_V f p l 256) (H : ∀ s, post (nI (qp_N f p l)) (f, h, s)) : ∃ n, wY_regions_12 post (nI p) n 0 f h s := by
  refine qp_le (fun n i => wY_regions_12 post (nI p) n (nI i) f h (qp_I s (fun _ => 0) i)) 0 256 (by omega) ?_ ?_
  · intro n
    obtain ⟨m, hm⟩ := qp_ry36 (post := post) (h := h) hp hV H
    have hz : ∀ j, j < 256 → qp_I s (fun _ => 0) 256 j = 0 := fun j hj => qp_I_in hj
    refine br_t qp_ge256 ⟨m, hm _ ⟨fun j hj q => absurd (hz j hj) q, fun i hi => absurd hi (Nat.not_lt_zero i), ?_⟩⟩
    intro k hk hS
    exact ⟨fun c _ => ⟨fun q => absurd (hz k hk) q, fun q => absurd (hz (k + 16) (by omega)) q⟩, fun c _ => ⟨fun q => absurd (hz k hk) q, fun q => absurd (hz (k + 1) (by omega)) q⟩⟩
  · intro n i h1 h2 W
    refine br_f (qp_nge h2) (And.intro (vp_in_nI h2 (by decide)) ?_)
    rw [qp_e0 h2, qp_n0]
    exact nm_r qp_I_st (nm_r (nI_1 i) W)
