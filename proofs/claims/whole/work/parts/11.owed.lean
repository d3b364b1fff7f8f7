/-! what is owed -/
def i_Rel (k : Nat) (u : SX) (v : SY) : Prop := u.1 = v.1 ∧ qp_B u.1
theorem i_up {k : Nat} {u : SX} {v : SY} (h : i_Rel k u v) : i_Rel (k + 5) u v := h
theorem i_vc0 : wpX_init (fun u => wpY_init (fun v => i_Rel 0 u v)) := ⟨rfl, fun _ => Or.inl rfl⟩
theorem i_vc_paint {k : Nat} {u : SX} {v : SY} (I : i_Rel k u v) (hk : k + 5 ≤ 2560) (v1 : Int32) (v2 : Int32) (v3 : Int32) (v4 : Int32) : wpX_paint (fun r u' => wpY_paint (fun r' v' => r' = r ∧ i_Rel (k + 5) u' v') v v1 v2 v3 v4) u v1 v2 v3 v4 := by
  obtain ⟨f, d, l⟩ := u
  obtain ⟨g, h, s⟩ := v
  obtain ⟨e, hf⟩ := I
  cases (show f = g from e)
  have hf : qp_B f := hf
  unfold wpX_paint
  dsimp only
  rcases qp_pic v1 with ⟨p, hp, rfl⟩ | ⟨bx, by'⟩
  · refine qp_px hp (br_f qp_10 ?_)
    rcases qp_fr v2 v3 with ⟨lo, hi, hl, hh, hq, hr, rfl, rfl⟩ | ⟨cx, cy⟩
    · refine qp_frx hl hh hq hr (br_f qp_10 ?_)
      have Y : ∀ post : Int32 → SY → Prop, ((v4 < 0 → post (-3) (f, h, s)) ∧ (¬ v4 < 0 → ((v4 ≤ 2 → (∃ n39 : Nat, wY_paint_39 post (nI p) (nI lo) (nI hi) v4 n39 0 f h s)) ∧ (¬ v4 ≤ 2 → post (-3) (f, h, s))))) → wpY_paint post (f, h, s) (nI p) (nI lo) (nI hi) v4 := by
        intro post H
        unfold wpY_paint
        dsimp only
        exact qp_py hp (br_t rfl (qp_fry hl hh hq hr (br_t rfl H)))
      refine br_c (fun z => Y _ (br_t z ⟨rfl, rfl, hf⟩)) (fun z => br_c (fun z2 => ?_) (fun z2 => Y _ (br_f z (br_f z2 ⟨rfl, rfl, hf⟩))))
      have Y' := fun (post : Int32 → SY → Prop) H => Y post (br_f z (br_t z2 H))
      obtain ⟨mo, hm, rfl⟩ := nI_of2 (M := 2) (n := 2) (by decide) z z2
      refine And.intro qp_n16 (nm_r (qp_d16 (by omega)) (qp_paintx hp hl hh (by omega) hq hr (Y' _ (qp_painty hp hl hh (by omega) ?_))))
      exact ⟨rfl, rfl, qp_F_B hf 256⟩
    · refine cx _ (br_t rfl ?_)
      unfold wpY_paint
      dsimp only
      exact qp_py hp (br_t rfl (cy _ _ _ _ (br_f qp_10 ⟨rfl, rfl, hf⟩)))
  · refine bx _ (br_t rfl ?_)
    unfold wpY_paint
    dsimp only
    exact by' _ _ _ _ (br_f qp_10 ⟨rfl, rfl, hf⟩)
theorem i_vc_join {k : Nat} {u : SX} {v : SY} (I : i_Rel k u v) (hk : k + 5 ≤ 2560) (v1 : Int32) (v2 : Int32) (v3 : Int32) : wpX_join (fun r u' => wpY_join (fun r' v' => r' = r ∧ i_Rel (k + 5) u' v') v v1 v2 v3) u v1 v2 v3 := by
  obtain ⟨f, d, l⟩ := u
  obtain ⟨g, h, s⟩ := v
  obtain ⟨e, hf⟩ := I
  cases (show f = g from e)
  have hf : qp_B f := hf
  unfold wpX_join
  dsimp only
  refine br_c (fun z => ?_) (fun z => br_c (fun z2 => ?_) (fun z2 => ?_))
  · unfold wpY_join
    exact br_t z ⟨rfl, rfl, hf⟩
  · obtain ⟨kd, hk, rfl⟩ := nI_of2 (M := 3) (n := 3) (by decide) z z2
    rcases qp_pic v2 with ⟨p, hp, rfl⟩ | ⟨bx, by'⟩
    · refine qp_px hp (br_f qp_10 ?_)
      rcases qp_pic v3 with ⟨q, hq, rfl⟩ | ⟨cx, cy⟩
      · refine qp_px hq (br_f qp_10 (qp_joinx (by omega) hp hq hf ?_))
        unfold wpY_join
        refine br_f z (br_t z2 (qp_py hp (br_t rfl (qp_py hq (br_t rfl (qp_hy hq hf ?_))))))
        refine qp_joiny (T := fun k => qp_jn kd (f (256 * p + k)) (f (256 * q + k))) (by omega) hp (fun k hk => by rw [qp_H_in hk]) ?_
        have hb : qp_B (qp_P p f (fun k => qp_jn kd (f (256 * p + k)) (f (256 * q + k))) 256) := qp_P_B hf (fun k _ => qp_jn_B _ _ _)
        exact ⟨rfl, rfl, hb⟩
      · refine cx _ (br_t rfl ?_)
        unfold wpY_join
        exact br_f z (br_t z2 (qp_py hp (br_t rfl (cy _ _ _ _ (br_f qp_10 ⟨rfl, rfl, hf⟩)))))
    · refine bx _ (br_t rfl ?_)
      unfold wpY_join
      exact br_f z (br_t z2 (by' _ _ _ _ (br_f qp_10 ⟨rfl, rfl, hf⟩)))
  · unfold wpY_join
    exact br_f z (br_f z2 ⟨rfl, rfl, hf⟩)
theorem i_vc_copy {k : Nat} {u : SX} {v : SY} (I : i_Rel k u v) (hk : k + 5 ≤ 2560) (v1 : Int32) (v2 : Int32) : wpX_copy (fun r u' => wpY_copy (fun r' v' => r' = r ∧ i_Rel (k + 5) u' v') v v1 v2) u v1 v2 := by
  obtain ⟨f, d, l⟩ := u
  obtain ⟨g, h, s⟩ := v
  obtain ⟨e, hf⟩ := I
  cases (show f = g from e)
  have hf : qp_B f := hf
  unfold wpX_copy
  dsimp only
  rcases qp_pic v1 with ⟨p, hp, rfl⟩ | ⟨bx, by'⟩
  · refine qp_px hp (br_f qp_10 ?_)
    rcases qp_pic v2 with ⟨q, hq, rfl⟩ | ⟨cx, cy⟩
    · refine qp_px hq (br_f qp_10 (qp_copyx hp hq hf ?_))
      unfold wpY_copy
      dsimp only
      have hh : ∀ k, k < 256 → qp_H q f h 256 k = 0 ∨ qp_H q f h 256 k = 1 := fun k hk => by rw [qp_H_in hk]; exact hf _
      refine qp_py hp (br_t rfl (qp_py hq (br_t rfl (qp_hy hq hf (qp_copyy hp hh ?_)))))
      rw [qp_P_eq (T' := fun k => f (256 * q + k)) (fun k hk => qp_H_in hk)]
      exact ⟨rfl, rfl, qp_P_B hf (fun k _ => hf _)⟩
    · refine cx _ (br_t rfl ?_)
      unfold wpY_copy
      dsimp only
      exact qp_py hp (br_t rfl (cy _ _ _ _ (br_f qp_10 ⟨rfl, rfl, hf⟩)))
  · refine bx _ (br_t rfl ?_)
    unfold wpY_copy
    dsimp only
    exact by' _ _ _ _ (br_f qp_10 ⟨rfl, rfl, hf⟩)
theorem i_vc_turn {k : Nat} {u : SX} {v : SY} (I : i_Rel k u v) (hk : k + 5 ≤ 2560) (v1 : Int32) (v2 : Int32) : wpX_turn (fun r u' => wpY_turn (fun r' v' => r' = r ∧ i_Rel (k + 5) u' v') v v1 v2) u v1 v2 := by
  obtain ⟨f, d, l⟩ := u
  obtain ⟨g, h, s⟩ := v
  obtain ⟨e, hf⟩ := I
  cases (show f = g from e)
  have hf : qp_B f := hf
  unfold wpX_turn
  dsimp only
  refine br_c (fun z => ?_) (fun z => br_c (fun z2 => ?_) (fun z2 => ?_))
  · unfold wpY_turn
    exact br_t z ⟨rfl, rfl, hf⟩
  · obtain ⟨kd, hk, rfl⟩ := nI_of2 (M := 2) (n := 2) (by decide) z z2
    rcases qp_pic v2 with ⟨p, hp, rfl⟩ | ⟨bx, by'⟩
    · refine qp_px hp (br_f qp_10 (qp_turnx (by omega) hp hf (fun D => ?_)))
      refine qp_ctx (ls := 1) (gs := 16) (sz := 0) (qp_T_B hf) hp (by decide) (by decide) qp_w16 ?_
      unfold wpY_turn
      refine br_f z (br_t z2 (qp_py hp (br_t rfl (qp_hy hp hf (qp_turny (by omega) hp hf (fun k hk => qp_H_in hk) (qp_cty (sz := 0) hp (by decide) ?_))))))
      exact ⟨rfl, rfl, qp_T_B hf⟩
    · refine bx _ (br_t rfl ?_)
      unfold wpY_turn
      exact br_f z (br_t z2 (by' _ _ _ _ (br_f qp_10 ⟨rfl, rfl, hf⟩)))
  · unfold wpY_turn
    exact br_f z (br_f z2 ⟨rfl, rfl, hf⟩)
theorem i_vc_shift {k : Nat} {u : SX} {v : SY} (I : i_Rel k u v) (hk : k + 5 ≤ 2560) (v1 : Int32) (v2 : Int32) (v3 : Int32) : wpX_shift (fun r u' => wpY_shift (fun r' v' => r' = r ∧ i_Rel (k + 5) u' v') v v1 v2 v3) u v1 v2 v3 := by
  obtain ⟨f, d, l⟩ := u
  obtain ⟨g, h, s⟩ := v
  obtain ⟨e, hf⟩ := I
  cases (show f = g from e)
  have hf : qp_B f := hf
  unfold wpX_shift
  dsimp only
  rcases qp_pic v1 with ⟨p, hp, rfl⟩ | ⟨bx, by'⟩
  · refine qp_px hp (br_f qp_10 ?_)
    refine br_c (fun z1 => ?_) (fun z1 => br_c (fun z2 => ?_) (fun z2 => br_c (fun z3 => ?_) (fun z3 => br_c (fun z4 => qp_shiftx hp hf (fun D => ?_)) (fun z4 => ?_))))
    · unfold wpY_shift
      dsimp only
      exact qp_py hp (br_t rfl (br_t z1 ⟨rfl, rfl, hf⟩))
    · unfold wpY_shift
      dsimp only
      exact qp_py hp (br_t rfl (br_f z1 (br_t z2 ⟨rfl, rfl, hf⟩)))
    · unfold wpY_shift
      dsimp only
      exact qp_py hp (br_t rfl (br_f z1 (br_f z2 (br_t z3 ⟨rfl, rfl, hf⟩))))
    · unfold wpY_shift
      dsimp only
      refine qp_py hp (br_t rfl (br_f z1 (br_f z2 (br_f z3 (br_t z4 (qp_hy hp hf (qp_shifty hp hf (fun k hk => qp_H_in hk) ?_)))))))
      exact ⟨rfl, rfl, qp_P_B hf (fun k _ => qp_sh_B hf _ _ _ _)⟩
    · unfold wpY_shift
      dsimp only
      exact qp_py hp (br_t rfl (br_f z1 (br_f z2 (br_f z3 (br_f z4 ⟨rfl, rfl, hf⟩)))))
  · refine bx _ (br_t rfl ?_)
    unfold wpY_shift
    dsimp only
    exact by' _ _ _ _ (br_f qp_10 ⟨rfl, rfl, hf⟩)
theorem i_vc_zoom {k : Nat} {u : SX} {v : SY} (I : i_Rel k u v) (hk : k + 5 ≤ 2560) (v1 : Int32) (v2 : Int32) (v3 : Int32) : wpX_zoom (fun r u' => wpY_zoom (fun r' v' => r' = r ∧ i_Rel (k + 5) u' v') v v1 v2 v3) u v1 v2 v3 := by
  obtain ⟨f, d, l⟩ := u
  obtain ⟨g, h, s⟩ := v
  obtain ⟨e, hf⟩ := I
  cases (show f = g from e)
  have hf : qp_B f := hf
  unfold wpX_zoom
  dsimp only
  rcases qp_pic v1 with ⟨p, hp, rfl⟩ | ⟨bx, by'⟩
  · refine qp_px hp (br_f qp_10 ?_)
    rcases qp_pic v2 with ⟨q, hq, rfl⟩ | ⟨cx, cy⟩
    · refine qp_px hq (br_f qp_10 ?_)
      refine br_c (fun z => ?_) (fun z => br_c (fun z2 => ?_) (fun z2 => ?_))
      · unfold wpY_zoom
        dsimp only
        exact qp_py hp (br_t rfl (qp_py hq (br_t rfl (br_t z ⟨rfl, rfl, hf⟩))))
      · obtain ⟨c, hc, rfl⟩ := nI_of2 (M := 3) (n := 3) (by decide) z z2
        have e1 : 8 * (nI c / 2) = nI (8 * (c / 2)) := by
          rw [qp_d2 (by omega), show (8 : Int32) = nI 8 from rfl, pk_mul]
        have e2 : 8 * (nI c - nI c / 2 * 2) = nI (8 * (c % 2)) := by
          rw [qp_r2 (by omega), show (8 : Int32) = nI 8 from rfl, pk_mul]
        refine And.intro qp_n2 (nm_r e1 (And.intro qp_n2 (nm_r e2 (qp_zoomx hp hq (by omega) hf (fun D => ?_)))))
        unfold wpY_zoom
        dsimp only
        refine qp_py hp (br_t rfl (qp_py hq (br_t rfl (br_f z (br_t z2 (qp_hy hq hf (qp_zoomy hp (by omega) hf (fun k hk => qp_H_in hk) ?_)))))))
        exact ⟨rfl, rfl, qp_P_B hf (fun k _ => hf _)⟩
      · unfold wpY_zoom
        dsimp only
        exact qp_py hp (br_t rfl (qp_py hq (br_t rfl (br_f z (br_f z2 ⟨rfl, rfl, hf⟩)))))
    · refine cx _ (br_t rfl ?_)
      unfold wpY_zoom
      dsimp only
      exact qp_py hp (br_t rfl (cy _ _ _ _ (br_f qp_10 ⟨rfl, rfl, hf⟩)))
  · refine bx _ (br_t rfl ?_)
    unfold wpY_zoom
    dsimp only
    exact by' _ _ _ _ (br_f qp_10 ⟨rfl, rfl, hf⟩)
theorem i_vc_at {k : Nat} {u : SX} {v : SY} (I : i_Rel k u v) (hk : k + 5 ≤ 2560) (v1 : Int32) (v2 : Int32) (v3 : Int32) : wpX_at (fun r => wpY_at (fun r' => r' = r ∧ i_Rel (k + 5) u v) v v1 v2 v3) u v1 v2 v3 := by
  obtain ⟨f, d, l⟩ := u
  obtain ⟨g, h, s⟩ := v
  obtain ⟨e, hf⟩ := I
  cases (show f = g from e)
  have hf : qp_B f := hf
  unfold wpX_at
  dsimp only
  rcases qp_pic v1 with ⟨p, hp, rfl⟩ | ⟨bx, by'⟩
  · refine qp_px hp (br_f qp_10 ?_)
    rcases qp_pt v2 v3 with ⟨x, y, hx, hy, rfl, rfl⟩ | ⟨cx, cy⟩
    · refine qp_ptx hx hy (br_f qp_10 (qp_isx hf hp hx hy (br_c (fun z => ?_) (fun z => ?_))))
      · unfold wpY_at
        dsimp only
        refine qp_py hp (br_t rfl (qp_pty hx hy (br_t rfl (And.intro (qp_v2 hp hx hy) ?_))))
        rw [qp_e2 hp hx hy]
        exact br_t z ⟨rfl, rfl, hf⟩
      · unfold wpY_at
        dsimp only
        refine qp_py hp (br_t rfl (qp_pty hx hy (br_t rfl (And.intro (qp_v2 hp hx hy) ?_))))
        rw [qp_e2 hp hx hy]
        exact br_f z ⟨rfl, rfl, hf⟩
    · refine cx _ (br_t rfl ?_)
      unfold wpY_at
      dsimp only
      exact qp_py hp (br_t rfl (cy _ _ _ _ (br_f qp_10 ⟨rfl, rfl, hf⟩)))
  · refine bx _ (br_t rfl ?_)
    unfold wpY_at
    dsimp only
    exact by' _ _ _ _ (br_f qp_10 ⟨rfl, rfl, hf⟩)
theorem i_vc_area {k : Nat} {u : SX} {v : SY} (I : i_Rel k u v) (hk : k + 5 ≤ 2560) (v1 : Int32) : wpX_area (fun r => wpY_area (fun r' => r' = r ∧ i_Rel (k + 5) u v) v v1) u v1 := by
  obtain ⟨f, d, l⟩ := u
  obtain ⟨g, h, s⟩ := v
  obtain ⟨e, hf⟩ := I
  cases (show f = g from e)
  have hf : qp_B f := hf
  unfold wpX_area
  dsimp only
  rcases qp_pic v1 with ⟨p, hp, rfl⟩ | ⟨bx, by'⟩
  · refine qp_px hp (br_f qp_10 ?_)
    refine qp_cxa hp ?_
    unfold wpY_area
    dsimp only
    exact qp_py hp (br_t rfl (qp_cy hp ⟨rfl, rfl, hf⟩))
  · refine bx _ (br_t rfl ?_)
    unfold wpY_area
    dsimp only
    exact by' _ _ _ _ (br_f qp_10 ⟨rfl, rfl, hf⟩)
theorem i_vc_areaIn {k : Nat} {u : SX} {v : SY} (I : i_Rel k u v) (hk : k + 5 ≤ 2560) (v1 : Int32) (v2 : Int32) (v3 : Int32) : wpX_areaIn (fun r => wpY_areaIn (fun r' => r' = r ∧ i_Rel (k + 5) u v) v v1 v2 v3) u v1 v2 v3 := by
  obtain ⟨f, d, l⟩ := u
  obtain ⟨g, h, s⟩ := v
  obtain ⟨e, hf⟩ := I
  cases (show f = g from e)
  have hf : qp_B f := hf
  unfold wpX_areaIn
  dsimp only
  rcases qp_pic v1 with ⟨p, hp, rfl⟩ | ⟨bx, by'⟩
  · refine qp_px hp (br_f qp_10 ?_)
    rcases qp_fr v2 v3 with ⟨lo, hi, hl, hh, hq, hr, rfl, rfl⟩ | ⟨cx, cy⟩
    · refine qp_frx hl hh hq hr (br_f qp_10 (qp_cx hp hl hh hq hr ?_))
      unfold wpY_areaIn
      dsimp only
      exact qp_py hp (br_t rfl (qp_fry hl hh hq hr (br_t rfl (qp_cyi hp hl hh ⟨rfl, rfl, hf⟩))))
    · refine cx _ (br_t rfl ?_)
      unfold wpY_areaIn
      dsimp only
      exact qp_py hp (br_t rfl (cy _ _ _ _ (br_f qp_10 ⟨rfl, rfl, hf⟩)))
  · refine bx _ (br_t rfl ?_)
    unfold wpY_areaIn
    dsimp only
    exact by' _ _ _ _ (br_f qp_10 ⟨rfl, rfl, hf⟩)
theorem i_vc_tiles {k : Nat} {u : SX} {v : SY} (I : i_Rel k u v) (hk : k + 5 ≤ 2560) (v1 : Int32) : wpX_tiles (fun r => wpY_tiles (fun r' => r' = r ∧ i_Rel (k + 5) u v) v v1) u v1 := by
  obtain ⟨f, d, l⟩ := u
  obtain ⟨g, h, s⟩ := v
  obtain ⟨e, hf⟩ := I
  cases (show f = g from e)
  have hf : qp_B f := hf
  unfold wpX_tiles
  dsimp only
  rcases qp_pic v1 with ⟨p, hp, rfl⟩ | ⟨bx, by'⟩
  · refine qp_px hp (br_f qp_10 ?_)
    refine qp_ctx (ls := 1) (gs := 16) (sz := 0) hf hp (by decide) (by decide) qp_w16 ?_
    unfold wpY_tiles
    dsimp only
    exact qp_py hp (br_t rfl (qp_cty (sz := 0) hp (by decide) ⟨rfl, rfl, hf⟩))
  · refine bx _ (br_t rfl ?_)
    unfold wpY_tiles
    dsimp only
    exact by' _ _ _ _ (br_f qp_10 ⟨rfl, rfl, hf⟩)
theorem i_vc_tilesOf {k : Nat} {u : SX} {v : SY} (I : i_Rel k u v) (hk : k + 5 ≤ 2560) (v1 : Int32) (v2 : Int32) : wpX_tilesOf (fun r => wpY_tilesOf (fun r' => r' = r ∧ i_Rel (k + 5) u v) v v1 v2) u v1 v2 := by
  obtain ⟨f, d, l⟩ := u
  obtain ⟨g, h, s⟩ := v
  obtain ⟨e, hf⟩ := I
  cases (show f = g from e)
  have hf : qp_B f := hf
  unfold wpX_tilesOf
  dsimp only
  rcases qp_pic v1 with ⟨p, hp, rfl⟩ | ⟨bx, by'⟩
  · refine qp_px hp (br_f qp_10 ?_)
    have K : ∀ t, t < 5 → v2 = nI (2 ^ t) → ∀ post : Int32 → Prop, post (nI (qp_s (qp_G f p (2 ^ t)) 256)) → wX_tilesOf_39 post (nI p) v2 f d l ∧ wY_tilesOf_42 post (nI p) v2 f h s := by
      intro t ht e post H
      have hs := qp_p2 ht
      rw [e]
      unfold wX_tilesOf_39 wY_tilesOf_42
      exact ⟨qp_ctx hf hp (by omega) (by omega) (fun t' ht' => ⟨fun q => Or.inr (by omega), fun q => by rcases q with q | q <;> omega⟩) H, qp_cty hp (by omega) H⟩
    have Q : ∀ post : Int32 → Prop, ((v2 = 1 → wY_tilesOf_42 post (nI p) v2 f h s) ∧ (¬ v2 = 1 → ((v2 = 2 → wY_tilesOf_42 post (nI p) v2 f h s) ∧ (¬ v2 = 2 → ((v2 = 4 → wY_tilesOf_42 post (nI p) v2 f h s) ∧ (¬ v2 = 4 → ((v2 = 8 → wY_tilesOf_42 post (nI p) v2 f h s) ∧ (¬ v2 = 8 → ((v2 = 16 → wY_tilesOf_42 post (nI p) v2 f h s) ∧ (¬ v2 = 16 → post (-2))))))))))) → wpY_tilesOf post (f, h, s) (nI p) v2 := by
      intro post H
      unfold wpY_tilesOf
      dsimp only
      exact qp_py hp (br_t rfl H)
    have Z : ∀ t, t < 5 → v2 = nI (2 ^ t) → (∀ post : Int32 → Prop, wY_tilesOf_42 post (nI p) v2 f h s → wpY_tilesOf post (f, h, s) (nI p) v2) → wX_tilesOf_39 (fun r => wpY_tilesOf (fun r' => r' = r ∧ i_Rel (k + 5) (f, d, l) (f, h, s)) (f, h, s) (nI p) v2) (nI p) v2 f d l := by
      intro t ht e q
      exact (K t ht e (fun r => wpY_tilesOf (fun r' => r' = r ∧ i_Rel (k + 5) (f, d, l) (f, h, s)) (f, h, s) (nI p) v2) (q _ (K t ht e _ ⟨rfl, rfl, hf⟩).2)).1
    refine br_c (fun c0 => Z 0 (by decide) c0 (fun post H => Q post (br_t c0 H))) (fun c0 => br_c (fun c1 => Z 1 (by decide) c1 (fun post H => Q post (br_f c0 (br_t c1 H)))) (fun c1 => br_c (fun c2 => Z 2 (by decide) c2 (fun post H => Q post (br_f c0 (br_f c1 (br_t c2 H))))) (fun c2 => br_c (fun c3 => Z 3 (by decide) c3 (fun post H => Q post (br_f c0 (br_f c1 (br_f c2 (br_t c3 H)))))) (fun c3 => br_c (fun c4 => Z 4 (by decide) c4 (fun post H => Q post (br_f c0 (br_f c1 (br_f c2 (br_f c3 (br_t c4 H))))))) (fun c4 => Q _ (br_f c0 (br_f c1 (br_f c2 (br_f c3 (br_f c4 ⟨rfl, rfl, hf⟩))))))))))
  · refine bx _ (br_t rfl ?_)
    unfold wpY_tilesOf
    dsimp only
    exact by' _ _ _ _ (br_f qp_10 ⟨rfl, rfl, hf⟩)
theorem i_vc_tileAt {k : Nat} {u : SX} {v : SY} (I : i_Rel k u v) (hk : k + 5 ≤ 2560) (v1 : Int32) (v2 : Int32) (v3 : Int32) : wpX_tileAt (fun r => wpY_tileAt (fun r' => r' = r ∧ i_Rel (k + 5) u v) v v1 v2 v3) u v1 v2 v3 := by
  obtain ⟨f, d, l⟩ := u
  obtain ⟨g, h, s⟩ := v
  obtain ⟨e, hf⟩ := I
  cases (show f = g from e)
  have hf : qp_B f := hf
  unfold wpX_tileAt
  dsimp only
  rcases qp_pic v1 with ⟨p, hp, rfl⟩ | ⟨bx, by'⟩
  · refine qp_px hp (br_f qp_10 ?_)
    rcases qp_pt v2 v3 with ⟨x, y, hx, hy, rfl, rfl⟩ | ⟨cx, cy⟩
    · refine qp_ptx hx hy (br_f qp_10 (qp_tsx hf hp hx hy ?_))
      unfold wpY_tileAt
      dsimp only
      exact qp_py hp (br_t rfl (qp_pty hx hy (br_t rfl (qp_tsy hp hx hy ⟨rfl, rfl, hf⟩))))
    · refine cx _ (br_t rfl ?_)
      unfold wpY_tileAt
      dsimp only
      exact qp_py hp (br_t rfl (cy _ _ _ _ (br_f qp_10 ⟨rfl, rfl, hf⟩)))
  · refine bx _ (br_t rfl ?_)
    unfold wpY_tileAt
    dsimp only
    exact by' _ _ _ _ (br_f qp_10 ⟨rfl, rfl, hf⟩)
theorem i_vc_same {k : Nat} {u : SX} {v : SY} (I : i_Rel k u v) (hk : k + 5 ≤ 2560) (v1 : Int32) (v2 : Int32) : wpX_same (fun r => wpY_same (fun r' => r' = r ∧ i_Rel (k + 5) u v) v v1 v2) u v1 v2 := by
  obtain ⟨f, d, l⟩ := u
  obtain ⟨g, h, s⟩ := v
  obtain ⟨e, hf⟩ := I
  cases (show f = g from e)
  have hf : qp_B f := hf
  unfold wpX_same
  dsimp only
  rcases qp_pic v1 with ⟨p, hp, rfl⟩ | ⟨bx, by'⟩
  · refine qp_px hp (br_f qp_10 ?_)
    rcases qp_pic v2 with ⟨q, hq, rfl⟩ | ⟨cx, cy⟩
    · obtain ⟨r, hX, hY⟩ := qp_same (f := f) (d := d) (l := l) (h := h) (s := s) hp hq 256 0 rfl
      refine qp_px hq (br_f qp_10 ⟨_, hX _ ?_⟩)
      unfold wpY_same
      dsimp only
      exact qp_py hp (br_t rfl (qp_py hq (br_t rfl ⟨_, hY _ ⟨rfl, rfl, hf⟩⟩)))
    · refine cx _ (br_t rfl ?_)
      unfold wpY_same
      dsimp only
      exact qp_py hp (br_t rfl (cy _ _ _ _ (br_f qp_10 ⟨rfl, rfl, hf⟩)))
  · refine bx _ (br_t rfl ?_)
    unfold wpY_same
    dsimp only
    exact by' _ _ _ _ (br_f qp_10 ⟨rfl, rfl, hf⟩)
theorem i_vc_within {k : Nat} {u : SX} {v : SY} (I : i_Rel k u v) (hk : k + 5 ≤ 2560) (v1 : Int32) (v2 : Int32) : wpX_within (fun r => wpY_within (fun r' => r' = r ∧ i_Rel (k + 5) u v) v v1 v2) u v1 v2 := by
  obtain ⟨f, d, l⟩ := u
  obtain ⟨g, h, s⟩ := v
  obtain ⟨e, hf⟩ := I
  cases (show f = g from e)
  have hf : qp_B f := hf
  unfold wpX_within
  dsimp only
  rcases qp_pic v1 with ⟨p, hp, rfl⟩ | ⟨bx, by'⟩
  · refine qp_px hp (br_f qp_10 ?_)
    rcases qp_pic v2 with ⟨q, hq, rfl⟩ | ⟨cx, cy⟩
    · obtain ⟨r, hX, hY⟩ := qp_within (f := f) (d := d) (l := l) (h := h) (s := s) hp hq 256 0 rfl
      refine qp_px hq (br_f qp_10 ⟨_, hX _ ?_⟩)
      unfold wpY_within
      dsimp only
      exact qp_py hp (br_t rfl (qp_py hq (br_t rfl ⟨_, hY _ ⟨rfl, rfl, hf⟩⟩)))
    · refine cx _ (br_t rfl ?_)
      unfold wpY_within
      dsimp only
      exact qp_py hp (br_t rfl (cy _ _ _ _ (br_f qp_10 ⟨rfl, rfl, hf⟩)))
  · refine bx _ (br_t rfl ?_)
    unfold wpY_within
    dsimp only
    exact by' _ _ _ _ (br_f qp_10 ⟨rfl, rfl, hf⟩)
theorem i_vc_border {k : Nat} {u : SX} {v : SY} (I : i_Rel k u v) (hk : k + 5 ≤ 2560) (v1 : Int32) : wpX_border (fun r => wpY_border (fun r' => r' = r ∧ i_Rel (k + 5) u v) v v1) u v1 := by
  obtain ⟨f, d, l⟩ := u
  obtain ⟨g, h, s⟩ := v
  obtain ⟨e, hf⟩ := I
  cases (show f = g from e)
  have hf : qp_B f := hf
  unfold wpX_border
  dsimp only
  rcases qp_pic v1 with ⟨p, hp, rfl⟩ | ⟨bx, by'⟩
  · refine qp_px hp (br_f qp_10 ?_)
    refine qp_box hf hp ?_
    unfold wpY_border
    dsimp only
    exact qp_py hp (br_t rfl (qp_boy hp ⟨rfl, rfl, hf⟩))
  · refine bx _ (br_t rfl ?_)
    unfold wpY_border
    dsimp only
    exact by' _ _ _ _ (br_f qp_10 ⟨rfl, rfl, hf⟩)
theorem i_vc_regions {k : Nat} {u : SX} {v : SY} (I : i_Rel k u v) (hk : k + 5 ≤ 2560) (v1 : Int32) : wpX_regions (fun r u' => wpY_regions (fun r' v' => r' = r ∧ i_Rel (k + 5) u' v') v v1) u v1 := by
  obtain ⟨f, d, l⟩ := u
  obtain ⟨g, h, s⟩ := v
  obtain ⟨e, hf⟩ := I
  cases (show f = g from e)
  have hf : qp_B f := hf
  unfold wpX_regions
  dsimp only
  rcases qp_pic v1 with ⟨p, hp, rfl⟩ | ⟨bx, by'⟩
  · refine qp_px hp (br_f qp_10 ?_)
    refine qp_rx hf hp (fun l' hV => ?_)
    unfold wpY_regions
    dsimp only
    exact qp_py hp (br_t rfl (qp_ry hp hV (fun s' => ⟨rfl, rfl, hf⟩)))
  · refine bx _ (br_t rfl ?_)
    unfold wpY_regions
    dsimp only
    exact by' _ _ _ _ (br_f qp_10 ⟨rfl, rfl, hf⟩)
theorem i_vc_next {k : Nat} {u : SX} {v : SY} (I : i_Rel k u v) (hk : k + 5 ≤ 2560) (v1 : Int32) (v2 : Int32) : wpX_next (fun r => wpY_next (fun r' => r' = r ∧ i_Rel (k + 5) u v) v v1 v2) u v1 v2 := by
  obtain ⟨f, d, l⟩ := u
  obtain ⟨g, h, s⟩ := v
  obtain ⟨e, hf⟩ := I
  cases (show f = g from e)
  have hf : qp_B f := hf
  unfold wpX_next
  dsimp only
  rcases qp_pic v1 with ⟨p, hp, rfl⟩ | ⟨bx, by'⟩
  · refine qp_px hp (br_f qp_10 ?_)
    obtain ⟨r, hX, hY⟩ := qp_next (f := f) (d := d) (l := l) (h := h) (s := s) (a := v2) hp 256 0 rfl
    refine ⟨_, hX _ ?_⟩
    unfold wpY_next
    dsimp only
    exact qp_py hp (br_t rfl ⟨_, hY _ ⟨rfl, rfl, hf⟩⟩)
  · refine bx _ (br_t rfl ?_)
    unfold wpY_next
    dsimp only
    exact by' _ _ _ _ (br_f qp_10 ⟨rfl, rfl, hf⟩)
