def i_Rel (k : Nat) (u : SX) (v : SY) : Prop := ∃ L : Nat → Nat → Bool, (∀ a b, L a b = L b a) ∧ (∀ a, L a a = false) ∧ mr_nb L u.1 ∧ mr_ln L v.1 ∧ v.2 0 = 0 ∧ mr_T L u.2 1024
theorem i_up {k : Nat} {u : SX} {v : SY} (h : i_Rel k u v) : i_Rel (k + 3) u v := h
theorem i_vc0 : wpX_init (fun u => wpY_init (fun v => i_Rel 0 u v)) := by
  refine ⟨fun _ _ => false, fun _ _ => rfl, fun _ => rfl, ?_, ?_, rfl, ?_⟩
  · intro p hp q hq
    show bt 0 q = _
    rw [b_0, Bool.and_false]
  · intro p hp q hq
    rfl
  · intro t ht
    refine ⟨0, rfl, trivial, fun m hm => ?_⟩
    cases m with
    | zero => exact Nat.le_refl _
    | succ m =>
      obtain ⟨a, b, _, _, _, h, _⟩ := hm
      exact absurd h Bool.false_ne_true
theorem i_vc_join {k : Nat} {u : SX} {v : SY} (I : i_Rel k u v) (hk : k + 3 ≤ 1536) (v1 : Int32) (v2 : Int32) : wpX_join (fun r u' => wpY_join (fun r' v' => r' = r ∧ i_Rel (k + 3) u' v') v v1 v2) u v1 v2 := by
  obtain ⟨nb, lg⟩ := u
  obtain ⟨ln, bs⟩ := v
  obtain ⟨L, sy, ir, hn, hl, h0, hT⟩ := I
  dsimp only at hn hl h0 hT
  unfold wpX_join wpY_join
  dsimp only
  rcases mt_2 v1 v2 with ⟨a, b, ha, hb, hab, rfl, rfl, hX, hY⟩ | ⟨hX, hY⟩
  · refine hX _ (br_f (by decide) (wx_hl hn ha hb (fun c => br_f (by decide) ?_) (fun c => br_t rfl ?_)))
    · refine hY _ (br_t rfl (wy_set hl ha hb hab true (fun ln' hl' => ⟨fun _ => ?_, fun d => ?_⟩)))
      · rw [ml_id sy c] at hl'
        exact ⟨rfl, L, sy, ir, hn, hl', h0, hT⟩
      · rw [c] at d; exact absurd d (by decide)
    · refine wx_fp sy hn (mg_0t (hT 0 (by omega))) ha hb hab (on := true) c (fun nb' lg' hn' hT' => ?_)
      refine hY _ (br_t rfl (wy_set hl ha hb hab true (fun ln' hl' => ⟨fun d => ?_, fun _ => ?_⟩)))
      · rw [c] at d; exact absurd d (by decide)
      · exact ⟨rfl, ml_set L a b true, ml_sy sy a b true, ml_ir ir hab true, hn', hl', h0, hT'⟩
  · exact hX _ (br_t rfl (hY _ (br_f (by decide) ⟨rfl, L, sy, ir, hn, hl, h0, hT⟩)))
theorem i_vc_part {k : Nat} {u : SX} {v : SY} (I : i_Rel k u v) (hk : k + 3 ≤ 1536) (v1 : Int32) (v2 : Int32) : wpX_part (fun r u' => wpY_part (fun r' v' => r' = r ∧ i_Rel (k + 3) u' v') v v1 v2) u v1 v2 := by
  obtain ⟨nb, lg⟩ := u
  obtain ⟨ln, bs⟩ := v
  obtain ⟨L, sy, ir, hn, hl, h0, hT⟩ := I
  dsimp only at hn hl h0 hT
  unfold wpX_part wpY_part
  dsimp only
  rcases mt_2 v1 v2 with ⟨a, b, ha, hb, hab, rfl, rfl, hX, hY⟩ | ⟨hX, hY⟩
  · refine hX _ (br_f (by decide) (wx_hl hn ha hb (fun c => br_f (by decide) ?_) (fun c => br_t rfl ?_)))
    · refine wx_fp sy hn (mg_0t (hT 0 (by omega))) ha hb hab (on := false) c (fun nb' lg' hn' hT' => ?_)
      refine hY _ (br_t rfl (wy_set hl ha hb hab false (fun ln' hl' => ⟨fun d => ?_, fun _ => ?_⟩)))
      · rw [c] at d; exact absurd d (by decide)
      · exact ⟨rfl, ml_set L a b false, ml_sy sy a b false, ml_ir ir hab false, hn', hl', h0, hT'⟩
    · refine hY _ (br_t rfl (wy_set hl ha hb hab false (fun ln' hl' => ⟨fun _ => ?_, fun d => ?_⟩)))
      · rw [ml_id sy c] at hl'
        exact ⟨rfl, L, sy, ir, hn, hl', h0, hT⟩
      · rw [c] at d; exact absurd d (by decide)
  · exact hX _ (br_t rfl (hY _ (br_f (by decide) ⟨rfl, L, sy, ir, hn, hl, h0, hT⟩)))
theorem i_vc_most {k : Nat} {u : SX} {v : SY} (I : i_Rel k u v) (hk : k + 3 ≤ 1536) : wpX_most (fun r => wpY_most (fun r' v' => r' = r ∧ i_Rel (k + 3) u v') v) u := by
  obtain ⟨nb, lg⟩ := u
  obtain ⟨ln, bs⟩ := v
  obtain ⟨L, sy, ir, hn, hl, h0, hT⟩ := I
  dsimp only at hn hl h0 hT
  unfold wpX_most
  dsimp only
  refine wy_most sy hl h0 (fun bs' hT' => ?_)
  exact ⟨mg_un rfl (hT' 1023 (by omega)) (hT _ (by omega)), L, sy, ir, hn, hl, mg_0t (hT' 0 (by omega)), hT⟩
theorem i_vc_spare {k : Nat} {u : SX} {v : SY} (I : i_Rel k u v) (hk : k + 3 ≤ 1536) (v1 : Int32) : wpX_spare (fun r => wpY_spare (fun r' v' => r' = r ∧ i_Rel (k + 3) u v') v v1) u v1 := by
  obtain ⟨nb, lg⟩ := u
  obtain ⟨ln, bs⟩ := v
  obtain ⟨L, sy, ir, hn, hl, h0, hT⟩ := I
  dsimp only at hn hl h0 hT
  unfold wpX_spare wpY_spare
  dsimp only
  rcases mt_1 v1 with ⟨a, ha, rfl, hX, hY⟩ | ⟨hX, hY⟩
  · have hle := mc_le 1023 a
    have hy : ∀ (r : Int32), ((lg (mc_cl 1023 a) = lg 1023 → r = 1) ∧ (¬ lg (mc_cl 1023 a) = lg 1023 → r = 0)) → wpY_spare (fun r' v' => r' = r ∧ i_Rel (k + 3) (nb, lg) v') (ln, bs) (nI a) := by
      intro r hr
      unfold wpY_spare
      dsimp only
      refine hY _ (br_t rfl (wy_work sy hl h0 (fun bs' hT' => ?_)))
      dsimp only
      rw [mc_all (by omega), nI_clamp (by omega), mg_un rfl (hT' (mc_cl 1023 a) (by omega)) (hT _ (by omega)), mg_un rfl (hT' 1023 (by omega)) (hT _ (by omega))]
      have hR : i_Rel (k + 3) (nb, lg) (ln, bs') := ⟨L, sy, ir, hn, hl, mg_0t (hT' 0 (by omega)), hT⟩
      exact ⟨vp_in_nI (by omega) (by omega), br_c (fun c => ⟨(hr.1 c).symm, hR⟩) (fun c => ⟨(hr.2 c).symm, hR⟩)⟩
    unfold wpY_spare at hy
    dsimp only at hy
    refine hX _ (br_f (by decide) (wx_is (by omega) (fun c => br_f (by decide) (hy 1 ?_)) (fun c => br_t rfl (hy 0 ?_))))
    · exact ⟨fun _ => rfl, fun d => absurd c d⟩
    · exact ⟨fun d => absurd d c, fun _ => rfl⟩
  · exact hX _ (br_t rfl (hY _ (br_f (by decide) ⟨rfl, L, sy, ir, hn, hl, h0, hT⟩)))
theorem i_vc_usable {k : Nat} {u : SX} {v : SY} (I : i_Rel k u v) (hk : k + 3 ≤ 1536) (v1 : Int32) (v2 : Int32) : wpX_usable (fun r => wpY_usable (fun r' v' => r' = r ∧ i_Rel (k + 3) u v') v v1 v2) u v1 v2 := by
  obtain ⟨nb, lg⟩ := u
  obtain ⟨ln, bs⟩ := v
  obtain ⟨L, sy, ir, hn, hl, h0, hT⟩ := I
  dsimp only at hn hl h0 hT
  unfold wpX_usable
  dsimp only
  rcases mt_2 v1 v2 with ⟨a, b, ha, hb, hab, rfl, rfl, hX, hY⟩ | ⟨hX, hY⟩
  · have hle := mc_le 1023 a
    have hle2 := mc_le (mc_cl 1023 a) b
    have hy : ∀ (r : Int32), (L a b = false → r = 0) → (L a b = true → (lg (mc_cl (mc_cl 1023 a) b) + 1 = lg 1023 → r = 1) ∧ (¬ lg (mc_cl (mc_cl 1023 a) b) + 1 = lg 1023 → r = 0)) →
        wpY_usable (fun r' v' => r' = r ∧ i_Rel (k + 3) (nb, lg) v') (ln, bs) (nI a) (nI b) := by
      intro r hr0 hr
      unfold wpY_usable
      dsimp only
      refine hY _ (br_t rfl (wy_work sy hl h0 (fun bs' hT' => ?_)))
      have hR : i_Rel (k + 3) (nb, lg) (ln, bs') := ⟨L, sy, ir, hn, hl, mg_0t (hT' 0 (by omega)), hT⟩
      dsimp only
      rw [mk_ix, mc_two (by omega) (by omega), nI_clamp (by omega : 10 * a + b < 2 ^ 31), nI_clamp (by omega : mc_cl (mc_cl 1023 a) b < 2 ^ 31), mk_b hl ha hb,
        mg_un rfl (hT' (mc_cl (mc_cl 1023 a) b) (by omega)) (hT _ (by omega)), mg_un rfl (hT' 1023 (by omega)) (hT _ (by omega))]
      refine ⟨vp_in_nI (by omega) (by omega), br_c (fun c => ⟨(hr0 c).symm, hR⟩) (fun c => ?_)⟩
      rw [Bool.not_eq_false] at c
      exact ⟨vp_in_nI (by omega) (by omega), br_c (fun d => ⟨((hr c).1 d).symm, hR⟩) (fun d => ⟨((hr c).2 d).symm, hR⟩)⟩
    refine hX _ (br_f (by decide) (wx_hl hn ha hb (fun c => br_f (by decide) (wx_mp (by omega) (by omega) (br_c (fun d => hy 1 ?_ ?_) (fun d => hy 0 ?_ ?_)))) (fun c => br_t rfl (hy 0 ?_ ?_))))
    · intro e; rw [c] at e; exact absurd e (by decide)
    · intro _; exact ⟨fun _ => rfl, fun e => absurd d e⟩
    · intro _; rfl
    · intro _; exact ⟨fun e => absurd e d, fun _ => rfl⟩
    · intro _; rfl
    · intro e; rw [c] at e; exact absurd e (by decide)
  · refine hX _ (br_t rfl ?_)
    unfold wpY_usable
    dsimp only
    exact hY _ (br_f (by decide) ⟨rfl, L, sy, ir, hn, hl, h0, hT⟩)
theorem i_vc_needed {k : Nat} {u : SX} {v : SY} (I : i_Rel k u v) (hk : k + 3 ≤ 1536) (v1 : Int32) (v2 : Int32) : wpX_needed (fun r => wpY_needed (fun r' v' => r' = r ∧ i_Rel (k + 3) u v') v v1 v2) u v1 v2 := by
  obtain ⟨nb, lg⟩ := u
  obtain ⟨ln, bs⟩ := v
  obtain ⟨L, sy, ir, hn, hl, h0, hT⟩ := I
  dsimp only at hn hl h0 hT
  unfold wpX_needed
  dsimp only
  rcases mt_2 v1 v2 with ⟨a, b, ha, hb, hab, rfl, rfl, hX, hY⟩ | ⟨hX, hY⟩
  · refine hX _ (br_f (by decide) (wx_wp sy ir hn hT ha hb hab (fun q hq => ?_)))
    have hy : ∀ (r : Int32), ((lg 1023 ≤ q → r = 0) ∧ (¬ lg 1023 ≤ q → r = 1)) → wpY_needed (fun r' v' => r' = r ∧ i_Rel (k + 3) (nb, lg) v') (ln, bs) (nI a) (nI b) := by
      intro r hr
      unfold wpY_needed
      dsimp only
      refine hY _ (br_t rfl (wy_most sy hl h0 (fun bs1 hT1 => ?_)))
      refine wy_set hl ha hb hab false (fun ln1 hl1 => ?_)
      have go : ∀ bs2 ln2, mr_T (ml_set L a b false) bs2 1024 → mr_ln L ln2 → wY_needed_44 (fun r' v' => r' = r ∧ i_Rel (k + 3) (nb, lg) v') (bs1 1023) (bs2 1023) ln2 bs2 := by
        intro bs2 ln2 hT2 hl2
        have hR : i_Rel (k + 3) (nb, lg) (ln2, bs2) := ⟨L, sy, ir, hn, hl2, mg_0t (hT2 0 (by omega)), hT⟩
        obtain ⟨n, e, hm⟩ := hq
        have e2 : bs2 1023 = q := mg_un (U := fun _ => q) rfl (hT2 1023 (by omega)) ⟨n, e, hm⟩
        unfold wY_needed_44
        rw [e2, mg_un rfl (hT1 1023 (by omega)) (hT _ (by omega))]
        exact br_c (fun c => ⟨(hr.1 c).symm, hR⟩) (fun c => ⟨(hr.2 c).symm, hR⟩)
      refine ⟨fun c => ?_, fun c => ?_⟩
      · refine wy_most (ml_sy sy a b false) hl1 (mg_0t (hT1 0 (by omega))) (fun bs2 hT2 => ?_)
        refine br_f (by decide) (go bs2 ln1 hT2 ?_)
        rw [ml_id sy c] at hl1
        exact hl1
      · refine wy_most (ml_sy sy a b false) hl1 (mg_0t (hT1 0 (by omega))) (fun bs2 hT2 => ?_)
        refine br_t rfl (wy_set hl1 ha hb hab true (fun ln2 hl2 => ?_))
        have c' : L a b = true := c
        rw [ml_2, ml_id sy c'] at hl2
        exact ⟨fun _ => go bs2 ln2 hT2 hl2, fun _ => go bs2 ln2 hT2 hl2⟩
    refine br_c (fun c => hy 0 ⟨fun _ => rfl, fun e => absurd c e⟩) (fun c => hy 1 ⟨fun e => absurd e c, fun _ => rfl⟩)
  · refine hX _ (br_t rfl ?_)
    unfold wpY_needed
    dsimp only
    exact hY _ (br_f (by decide) ⟨rfl, L, sy, ir, hn, hl, h0, hT⟩)
theorem i_vc_guards {k : Nat} {u : SX} {v : SY} (I : i_Rel k u v) (hk : k + 3 ≤ 1536) : wpX_guards (fun r => wpY_guards (fun r' v' => r' = r ∧ i_Rel (k + 3) u v') v) u := by
  obtain ⟨nb, lg⟩ := u
  obtain ⟨ln, bs⟩ := v
  obtain ⟨L, sy, ir, hn, hl, h0, hT⟩ := I
  dsimp only at hn hl h0 hT
  refine wx_gd hn (fun r g h1 h3 => ?_)
  refine wy_gd sy hl h0 (fun bs' r' g' hT' h2 h4 => ?_)
  exact ⟨md_eq hT hT' h1 h2 h3 h4, L, sy, ir, hn, hl, mg_0t (hT' 0 (by omega)), hT⟩
theorem i_vc_mostWithout {k : Nat} {u : SX} {v : SY} (I : i_Rel k u v) (hk : k + 3 ≤ 1536) (v1 : Int32) : wpX_mostWithout (fun r => wpY_mostWithout (fun r' v' => r' = r ∧ i_Rel (k + 3) u v') v v1) u v1 := by
  obtain ⟨nb, lg⟩ := u
  obtain ⟨ln, bs⟩ := v
  obtain ⟨L, sy, ir, hn, hl, h0, hT⟩ := I
  dsimp only at hn hl h0 hT
  unfold wpX_mostWithout wpY_mostWithout
  dsimp only
  obtain ⟨s, hs, e⟩ := mc_set v1
  rw [e, nI_clamp (by omega)]
  refine ⟨vp_in_nI hs (by omega), wy_work sy hl h0 (fun bs' hT' => ?_)⟩
  exact ⟨vp_in_nI hs (by omega), mg_un rfl (hT' s hs) (hT s hs), L, sy, ir, hn, hl, mg_0t (hT' 0 (by omega)), hT⟩
theorem i_vc_parts {k : Nat} {u : SX} {v : SY} (I : i_Rel k u v) (hk : k + 3 ≤ 1536) : wpX_parts (fun r => wpY_parts (fun r' v' => r' = r ∧ i_Rel (k + 3) u v') v) u := by
  obtain ⟨nb, lg⟩ := u
  obtain ⟨ln, bs⟩ := v
  obtain ⟨L, sy, ir, hn, hl, h0, hT⟩ := I
  dsimp only at hn hl h0 hT
  unfold wpX_parts
  dsimp only
  refine wx_gd hn (fun r g h1 h3 => ?_)
  intro x ex
  have hy : ∀ q : Int32, (∀ bs' : Nat → Int32, ∀ post : Int32 → SY → Prop, post q (ln, bs') → ∃ n, wY_parts_13 post ln bs' n x 0) → wpY_parts (fun r' v' => r' = q ∧ i_Rel (k + 3) (nb, lg) v') (ln, bs) := by
    intro q hq
    unfold wpY_parts
    dsimp only
    refine wy_gd sy hl h0 (fun bs' r' g' hT' h2 h4 => ?_)
    intro y ey
    have e : y = x := by rw [ey, ex, md_eq hT hT' h1 h2 h3 h4]
    rw [e]
    exact hq bs' _ ⟨rfl, L, sy, ir, hn, hl, mg_0t (hT' 0 (by omega)), hT⟩
  have hx : ∀ j, j < 32 → bt x j = true → 0 ≤ j ∧ j < 10 := by
    intro j hj h
    rw [ex, b_and, mb_1023 j hj, Bool.and_eq_true, decide_eq_true_iff] at h
    exact ⟨Nat.zero_le _, h.1⟩
  obtain ⟨q, hX, hY⟩ := mp_go ir hn hl (lg := lg) 10 0 x 0 rfl hx
  exact ⟨_, hX _ (hy q hY)⟩
