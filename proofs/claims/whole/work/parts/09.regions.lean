/-! regions: X's walk -/
def qp_A1 (f : Nat → Int32) (p : Nat) (l : Nat → Int32) (k : Nat) : Prop := k < 240 → ¬ f (256 * p + k) = 0 → ¬ f (256 * p + (k + 16)) = 0 → l k = l (k + 16)
def qp_A2 (f : Nat → Int32) (p : Nat) (l : Nat → Int32) (k : Nat) : Prop := k % 16 < 15 → ¬ f (256 * p + k) = 0 → ¬ f (256 * p + (k + 1)) = 0 → l k = l (k + 1)
def qp_V (f : Nat → Int32) (p : Nat) (l : Nat → Int32) (t : Nat) : Prop := (∀ k, k < t → qp_A1 f p l k ∧ qp_A2 f p l k) ∧ qp_LB f p l
theorem qp_A1m {f : Nat → Int32} {p : Nat} {l l' : Nat → Int32} {k : Nat} (hk : k < 256) (h : ∀ i j, i < 256 → j < 256 → l i = l j → l' i = l' j) (a : qp_A1 f p l k) : qp_A1 f p l' k := fun h1 h2 h3 => h _ _ hk (by omega) (a h1 h2 h3)
theorem qp_A2m {f : Nat → Int32} {p : Nat} {l l' : Nat → Int32} {k : Nat} (hk : k < 256) (h : ∀ i j, i < 256 → j < 256 → l i = l j → l' i = l' j) (a : qp_A2 f p l k) : qp_A2 f p l' k := fun h1 h2 h3 => h _ _ hk (by omega) (a h1 h2 h3)
theorem qp_e16 {p x y : Nat} : 256 * p + (16 * (x + 1) + y) = 256 * p + (16 * x + y + 16) := by omega
theorem qp_r52 {post : Int32 → SX → Prop} {J : Int32 → Int32 → (Nat → Int32) → (Nat → Int32) → (Nat → Int32) → Prop} {f d : Nat → Int32} {p x : Nat} (hf : qp_B f) (hp : p < 3) (hx : x < 16) (h : ∀ l, qp_V f p l (16 * (x + 1)) → J (nI (qp_N f p l)) (nI (x + 1)) f d l) :
    ∃ n, ∀ l, qp_V f p l (16 * x) → wX_regions_52 post J (nI p) (nI x) n (nI (qp_N f p l)) 0 f d l := by
  refine qp_le (fun n y => ∀ l, qp_V f p l (16 * x + y) → wX_regions_52 post J (nI p) (nI x) n (nI (qp_N f p l)) (nI y) f d l) 0 16 (by omega) ?_ ?_
  · intro n l hV
    exact br_t qp_ge16 (nm_r (nI_1 x) (h l hV))
  · intro n y h1 h2 W l hV
    have hk : 16 * x + y < 256 := by omega
    have L : ∀ l, qp_V f p l (16 * x + y) → qp_A1 f p l (16 * x + y) → wX_regions_116 post J (wX_regions_52 post J (nI p) (nI x) n) (nI p) (nI (qp_N f p l)) (nI x) (nI y) (nI (16 * x + y)) (f (256 * p + (16 * x + y))) f d l := by
      intro l hV hA
      have K : qp_A2 f p l (16 * x + y) → qp_V f p l (16 * x + (y + 1)) := by
        intro h2'
        refine ⟨fun k hk' => ?_, hV.2⟩
        by_cases e : k = 16 * x + y
        · rw [e]; exact ⟨hA, h2'⟩
        · exact hV.1 k (by omega)
      unfold wX_regions_116
      refine br_c (fun z => nm_r (nI_1 y) (W l (K (fun _ q _ => absurd z q)))) (fun z => ?_)
      refine pk_le 15 y (fun c => nm_r (nI_1 y) (W l (K (fun q _ _ => by omega)))) (fun c => ?_) rfl rfl (by omega) (by omega)
      rw [nI_1 y]
      refine qp_isx hf hp hx (by omega) (br_c (fun c2 => nm_e (W l (K (fun _ _ q => absurd c2 q)))) (fun c2 => ?_))
      rw [nI_1 (16 * x + y)]
      refine qp_un hk (by omega) z c2 (fun C hC => (hC _ hk z).2 (by omega) c2) hV.2 ?_
      intro l' r hr hB hm hab
      refine nm_r (pk_sub (by omega)) (nm_e ?_)
      rw [show qp_N f p l - r = qp_N f p l' by omega]
      refine W l' ⟨fun k hk' => ?_, hB⟩
      by_cases e : k = 16 * x + y
      · rw [e]; exact ⟨qp_A1m hk hm hA, fun _ _ _ => hab⟩
      · have q := hV.1 k (by omega)
        exact ⟨qp_A1m (by omega) hm q.1, qp_A2m (by omega) hm q.2⟩
    refine br_f (qp_nge16 h2) (nm_r (qp_i3 x y) (qp_isx hf hp hx h2 (br_c (fun z => L l hV (fun _ q _ => absurd z q)) (fun z => ?_))))
    refine pk_le 15 x (fun c => L l hV (fun q _ _ => by omega)) (fun c => ?_) rfl rfl (by omega) (by omega)
    rw [nI_1 x]
    refine qp_isx hf hp (by omega) h2 ?_
    rw [qp_e16]
    refine br_c (fun c2 => L l hV (fun _ _ q => absurd c2 q)) (fun c2 => ?_)
    rw [show (16 : Int32) = nI 16 from rfl, nI_add]
    refine qp_un hk (by omega) z c2 (fun C hC => (hC _ hk z).1 (by omega) c2) hV.2 ?_
    intro l' r hr hB hm hab
    refine nm_r (pk_sub (by omega)) ?_
    rw [show qp_N f p l - r = qp_N f p l' by omega]
    refine L l' ⟨fun k hk' => ?_, hB⟩ (fun _ _ _ => hab)
    have q := hV.1 k (by omega)
    exact ⟨qp_A1m (by omega) hm q.1, qp_A2m (by omega) hm q.2⟩
theorem qp_r43 {post : Int32 → SX → Prop} {f d : Nat → Int32} {p : Nat} (hf : qp_B f) (hp : p < 3) (h : ∀ l, qp_V f p l 256 → post (nI (qp_N f p l)) (f, d, l)) :
    ∃ n, ∀ l, qp_V f p l 0 → wX_regions_43 post (nI p) n (nI (qp_N f p l)) 0 f d l := by
  refine qp_le (fun n x => ∀ l, qp_V f p l (16 * x) → wX_regions_43 post (nI p) n (nI (qp_N f p l)) (nI x) f d l) 0 16 (by omega) ?_ ?_
  · intro n l hV
    exact br_t qp_ge16 (h l hV)
  · intro n x h1 h2 W l hV
    obtain ⟨m, hm⟩ := qp_r52 (post := post) (d := d) hf hp h2 W
    exact br_f (qp_nge16 h2) ⟨m, hm l hV⟩
theorem qp_rx {post : Int32 → SX → Prop} {f d l : Nat → Int32} {p : Nat} (hf : qp_B f) (hp : p < 3) (h : ∀ l, qp_V f p l 256 → post (nI (qp_N f p l)) (f, d, l)) : ∃ n, wX_regions_11 post (nI p) n 0 f d l := by
  refine qp_le (fun n i => wX_regions_11 post (nI p) n (nI i) f d (qp_I l nI i)) 0 256 (by omega) ?_ ?_
  · intro n
    have hin : ∀ i j, i < 256 → j < 256 → qp_I l nI 256 i = qp_I l nI 256 j → i = j := by
      intro i j hi hj e
      rw [qp_I_in hi, qp_I_in hj, nI_eq (by omega) (by omega)] at e
      exact e
    have hV : qp_V f p (qp_I l nI 256) 0 := ⟨fun k hk => absurd hk (Nat.not_lt_zero k), fun C hC i j hi hj e => by rw [hin i j hi hj e]⟩
    have hN : qp_n f p = qp_N f p (qp_I l nI 256) := by
      refine qp_s_congr 256 (fun k hk => ?_)
      by_cases c : f (256 * p + k) = 0
      · rw [qp_w0 c, qp_ld0 (fun q => q.1 c)]
      · rw [qp_w1 c, qp_ld1 ⟨c, fun j hj e => by have := hin j k (by omega) hk e; omega⟩]
    obtain ⟨m, hm⟩ := qp_r43 (post := post) (d := d) hf hp h
    refine br_t qp_ge256 (qp_cxa hp ⟨m, ?_⟩)
    rw [hN]
    exact hm _ hV
  · intro n i h1 h2 W
    refine br_f (qp_nge h2) (And.intro (vp_in_nI h2 (by decide)) ?_)
    rw [qp_e0 h2]
    exact nm_r qp_I_st (nm_r (nI_1 i) W)
