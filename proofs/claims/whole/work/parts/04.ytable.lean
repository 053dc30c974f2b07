theorem mk_ix (p q : Nat) : (10 * nI p) + nI q = nI (10 * p + q) := by
  show nI 10 * nI p + nI q = _
  rw [pk_mul, nI_add]
theorem mk_b {L : Nat → Nat → Bool} {ln : Nat → Int32} (hl : mr_ln L ln) {p q : Nat} (hp : p < 10) (hq : q < 10) : ln (10 * p + q) = 0 ↔ L p q = false := by
  rw [hl p hp q hq]
  cases L p q <;> decide
theorem ms_10 {s : Nat} (h : s < 1024) {q : Nat} (hq : s.testBit q = true) : q < 10 := ms_lt (top := 10) h hq
theorem wy_22 {L : Nat → Nat → Bool} (sy : ∀ a b, L a b = L b a) {ln bs : Nat → Int32} (hl : mr_ln L ln) {s p : Nat} (hs : s < 1024) (hp : p < 10) (hsp : s.testBit p = true) (hT : mr_T L bs s)
    {post : Int32 → Prop} (h : ∀ r, (∃ n, r = nI n ∧ mg_mx L s n) → post r) : wY_pair_22 post (nI s) (nI p) ln bs := by
  have hlt := mc_lt hsp
  unfold wY_pair_22
  rw [mc_int s (by omega)]
  intro x3 e3
  rw [e3]
  refine ⟨vp_in_nI (by omega) (by omega), ?_⟩
  rw [nI_clamp (by omega)]
  intro x4 e4
  refine loop_0 (fun n i (x : Int32) => wY_pair_41 post (nI p) (nI (mc_cl s p)) ln bs n x (nI i)) (fun i x => mg_iv L s p i x) 10 x4 ?_ ?_ ?_
  · rw [e4]; exact mg_i0 (hT _ hlt)
  · intro n x hI
    exact br_t (nI_le (b := 10) (Nat.le_refl _) (by decide)) (h x (mg_en sy hI (fun q hq _ => ms_10 hs hq)))
  · intro n i x hi hI ih
    refine br_f (nI_ge (b := 10) hi (by decide)) ?_
    refine br_c (fun c => ?_) (fun c => ?_)
    · rw [mb_has _ (by omega), mb_nI _ (by omega)] at c
      obtain ⟨c1, c2⟩ := mc_t c
      rw [mk_ix]
      refine ⟨vp_in_nI (by omega) (by omega), ?_⟩
      rw [nI_clamp (by omega)]
      refine br_c (fun d => ?_) (fun d => ?_)
      · intro z ez
        rw [ez, nI_1]
        rw [mk_b hl hp hi] at d
        exact ih _ (mg_sk hI (fun _ _ e => by rw [d] at e; exact absurd e (by decide)))
      · rw [mk_b hl hp hi, Bool.not_eq_false] at d
        have hlt2 := mc_le (mc_cl s p) i
        rw [mc_int _ (by omega)]
        refine ⟨vp_in_nI (by omega) (by omega), ?_⟩
        rw [nI_clamp (by omega)]
        refine br_c (fun f => ?_) (fun f => ?_)
        · intro z ez
          rw [ez, nI_1]
          exact ih _ (mg_no hs hI (hT _ (by omega)) f)
        · refine ⟨vp_in_nI (by omega) (by omega), ?_⟩
          intro y ey z ez
          rw [ez, nI_1, ey]
          exact ih _ (mg_ye hs hI hsp c1 c2 d (hT _ (by omega)) f)
    · intro z ez
      rw [ez, nI_1]
      rw [mb_has _ (by omega), mb_nI _ (by omega)] at c
      exact ih _ (mg_sk hI (fun a b _ => c (mc_i b a)))
theorem wy_pair {L : Nat → Nat → Bool} (sy : ∀ a b, L a b = L b a) {ln bs : Nat → Int32} (hl : mr_ln L ln) {s : Nat} (hs : s < 1024) (h0 : 0 < s) (hT : mr_T L bs s)
    {post : Int32 → Prop} (h : ∀ r, (∃ n, r = nI n ∧ mg_mx L s n) → post r) : wpY_pair post (ln, bs) (nI s) := by
  refine loop_0 (fun n i (_ : Unit) => wY_pair_2 post (nI s) ln bs n (nI i)) (fun i _ => ∀ j, j < i → s.testBit j = false) 10 () ?_ ?_ ?_
  · intro j hj; exact absurd hj (by omega)
  · intro n _ hI
    exfalso
    have e : s = 0 := by
      apply Nat.eq_of_testBit_eq
      intro i
      rw [Nat.zero_testBit]
      cases e : s.testBit i
      · rfl
      · rw [← e]; exact hI i (ms_10 hs e)
    omega
  · intro n i _ hi hI ih
    refine br_f (nI_ge (b := 10) hi (by decide)) ?_
    refine br_c (fun c => ?_) (fun c => ?_)
    · rw [mb_has0 _ (by omega), mb_nI _ (by omega)] at c
      intro z ez
      rw [ez, nI_1]
      exact ih () (lt_s hI c)
    · rw [mb_has0 _ (by omega), mb_nI _ (by omega), Bool.not_eq_false] at c
      exact wy_22 sy hl hs hi c hT h
theorem wy_work {L : Nat → Nat → Bool} (sy : ∀ a b, L a b = L b a) {ln bs : Nat → Int32} (hl : mr_ln L ln) (h0 : bs 0 = 0)
    {post : SY → Prop} (h : ∀ bs', mr_T L bs' 1024 → post (ln, bs')) : wpY_work post (ln, bs) := by
  refine pk_loop (fun n i (a : Nat → Int32) => wY_work_2 post n (nI i) ln a) (fun i a => 0 < i ∧ mr_T L a i) 1024 1 bs (by decide) ?_ ?_ ?_
  · refine ⟨by decide, fun t ht => ?_⟩
    obtain rfl : t = 0 := by omega
    exact mg_t0 h0
  · intro n a hI
    exact br_t (nI_le (b := 1024) (Nat.le_refl _) (by decide)) (h a hI.2)
  · intro n i a hi hI ih
    refine br_f (nI_ge (b := 1024) hi (by decide)) ?_
    refine wy_pair sy hl hi hI.1 hI.2 ?_
    intro r hr
    refine ⟨vp_in_nI (by omega) (by omega), ?_⟩
    rw [nI_clamp (by omega)]
    intro b eb x ex
    rw [ex, nI_1, eb]
    exact ih _ ⟨by omega, mr_up hI.2 hr⟩
