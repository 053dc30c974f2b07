/-! what the two states hold of the lines L -/
def mr_nb (L : Nat → Nat → Bool) (nb : Nat → Int32) : Prop := ∀ p, p < 10 → ∀ q, q < 32 → bt (nb p) q = (decide (q < 10) && L p q)
def mr_ln (L : Nat → Nat → Bool) (ln : Nat → Int32) : Prop := ∀ p, p < 10 → ∀ q, q < 10 → ln (10 * p + q) = if L p q = true then 1 else 0
def mr_T (L : Nat → Nat → Bool) (T : Nat → Int32) (e : Nat) : Prop := ∀ t, t < e → mg_tb L T t
theorem mr_up {L : Nat → Nat → Bool} {T : Nat → Int32} {e : Nat} {r : Int32} (h : mr_T L T e) (hr : ∃ n, r = nI n ∧ mg_mx L e n) : mr_T L (upd T e r) (e + 1) := by
  intro t ht
  by_cases z : t = e
  · subst z
    obtain ⟨n, h1, h2⟩ := hr
    exact ⟨n, by rw [pk_us, h1], h2⟩
  · obtain ⟨n, h1, h2⟩ := h t (by omega)
    exact ⟨n, by rw [pk_un z, h1], h2⟩
theorem mb_pow : ∀ p, p < 10 → (1 : Int32) <<< (nI p &&& 31) = nI (2 ^ p) := by decide +kernel
theorem mb_p2 : ∀ p, p < 10 → 2 ^ p ≤ 512 := by decide +kernel
theorem ms_tb {top rest : Nat} (h : rest < 2 ^ top) (i : Nat) : (2 ^ top + rest).testBit i = (decide (i = top) || rest.testBit i) := by
  have e := Nat.two_pow_add_eq_or_of_lt h 1
  rw [Nat.mul_one] at e
  rw [e, Nat.testBit_or, Nat.testBit_two_pow]
  by_cases z : i = top
  · subst z; simp
  · have z' : ¬ top = i := fun e => z e.symm
    simp [z, z']
theorem ms_lt {top rest q : Nat} (h : rest < 2 ^ top) (hq : rest.testBit q = true) : q < top := by
  apply Classical.byContradiction
  intro z
  have a : rest.testBit q = false := Nat.testBit_lt_two_pow (Nat.lt_of_lt_of_le h (Nat.pow_le_pow_right (by decide) (by omega)))
  rw [a] at hq
  exact absurd hq (by decide)
theorem ms_cl {top rest : Nat} (h : rest < 2 ^ top) : mc_cl (2 ^ top + rest) top = rest := by
  apply Nat.eq_of_testBit_eq
  intro i
  rw [mc_tb, ms_tb h]
  by_cases z : i = top
  · subst z
    have a : rest.testBit i = false := Nat.testBit_lt_two_pow h
    simp [a]
  · simp [z]
theorem ms_or {top rest : Nat} (ht : top < 10) (h : rest < 2 ^ top) : ((1 : Int32) <<< (nI top &&& 31)) ||| nI rest = nI (2 ^ top + rest) := by
  apply b_ext
  intro i hi
  rw [b_or, mb_one top (by omega) i hi, mb_nI _ hi, mb_nI _ hi, ms_tb h]
theorem wx_ct {post : Int32 → Prop} {x : Int32} {p : Nat} (hp : p < 32) (h1 : bt x p = true → post 1) (h0 : bt x p = false → post 0) : wpX_contains post x (nI p) := by
  unfold wpX_contains
  refine br_c (fun c => h1 ((mb_has x hp).1 c)) (fun c => h0 ?_)
  cases e : bt x p
  · rfl
  · exact absurd ((mb_has x hp).2 e) c
theorem wx_mt {L : Nat → Nat → Bool} (sy : ∀ a b, L a b = L b a) {nb lg : Nat → Int32} (hn : mr_nb L nb) {top rest : Nat} (ht : top < 10) (hr : rest < 2 ^ top) (hT : mr_T L lg (2 ^ top + rest))
    {post : Int32 → Prop} (h : ∀ r, (∃ n, r = nI n ∧ mg_mx L (2 ^ top + rest) n) → post r) : wpX_mostWithTop post (nb, lg) (nI top) (nI rest) := by
  have h2 := mb_p2 top ht
  have hb : ∀ q, (2 ^ top + rest).testBit q = true → q ≠ top → q < top := by
    intro q hq hne
    rw [ms_tb hr, decide_eq_false hne, Bool.false_or] at hq
    exact ms_lt hr hq
  have hp : (2 ^ top + rest).testBit top = true := by rw [ms_tb hr]; simp
  have hpos : 0 < 2 ^ top := Nat.pow_pos (by decide)
  refine ⟨vp_in_nI (by omega) (by omega), ?_⟩
  intro x3 e3
  refine ⟨vp_in_nI ht (by omega), ?_⟩
  intro x4 e4
  rw [nI_clamp (by omega)] at e3 e4
  refine loop_0 (fun n i (x : Int32) => wX_mostWithTop_20 post (nI top) (nI rest) x4 nb lg n x (nI i)) (fun i x => mg_iv L (2 ^ top + rest) top i x) top x3 ?_ ?_ ?_
  · have a := mg_i0 (L := L) (s := 2 ^ top + rest) (p := top) (T := lg) (by rw [ms_cl hr]; exact hT rest (by omega))
    rw [ms_cl hr] at a
    rw [e3]; exact a
  · intro n x hI
    exact br_t (nI_le (Nat.le_refl _) (by omega)) (h x (mg_en sy hI hb))
  · intro n i x hi hI ih
    have hbt : bt x4 i = (L top i && rest.testBit i) := by
      rw [e4, b_and, hn top ht i (by omega), mb_nI _ (by omega), decide_eq_true (by omega), Bool.true_and]
    have hsi : (2 ^ top + rest).testBit i = rest.testBit i := by rw [ms_tb hr, decide_eq_false (by omega), Bool.false_or]
    refine br_f (nI_ge hi (by omega)) ?_
    refine wx_ct (by omega) (fun hc => ?_) (fun hc => ?_)
    · rw [hbt, Bool.and_eq_true] at hc
      have hlt := mc_le rest i
      have hTi : mg_tb L lg (mc_cl (mc_cl (2 ^ top + rest) top) i) := by rw [ms_cl hr]; exact hT _ (by omega)
      refine br_f (by decide) ?_
      rw [mc_int rest (by omega)]
      refine ⟨vp_in_nI (by omega) (by omega), ?_⟩
      rw [nI_clamp (by omega)]
      intro y ey
      have ey' : y = lg (mc_cl (mc_cl (2 ^ top + rest) top) i) + 1 := by rw [ey, ms_cl hr, Int32.add_comm]
      rw [ey']
      refine br_c (fun c z ez => ?_) (fun c z ez => ?_)
      · rw [ez, nI_1]; exact ih _ (mg_no (by omega) hI hTi c)
      · rw [ez, nI_1]; exact ih _ (mg_ye (by omega) hI hp (hsi.trans hc.2) (by omega) hc.1 hTi c)
    · refine br_t rfl ?_
      intro z ez
      rw [ez, nI_1]
      refine ih _ (mg_sk hI (fun _ hs hl => ?_))
      rw [hsi] at hs
      rw [hbt, hs, hl] at hc
      exact absurd hc (by decide)
theorem wx_f10 {L : Nat → Nat → Bool} (sy : ∀ a b, L a b = L b a) {nb lg : Nat → Int32} (hn : mr_nb L nb) {top : Nat} (ht : top < 10) (hT : mr_T L lg (2 ^ top))
    {post : SX → Prop} {J2 : Int32 → (Nat → Int32) → (Nat → Int32) → Prop} (h : ∀ lg', mr_T L lg' (2 ^ (top + 1)) → J2 (nI (top + 1)) nb lg') : ∃ n, wX_fillLargest_10 post J2 (nI top) n 0 nb lg := by
  have h2 := mb_p2 top ht
  refine loop_0 (fun n i (a : Nat → Int32) => wX_fillLargest_10 post J2 (nI top) n (nI i) nb a) (fun i a => mr_T L a (2 ^ top + i)) (2 ^ top) lg hT ?_ ?_
  · intro n a hI
    refine br_t (by rw [mb_pow top ht]; exact nI_le (Nat.le_refl _) (by omega)) ?_
    intro x ex
    rw [ex, nI_1]
    refine h a ?_
    rw [show 2 ^ (top + 1) = 2 ^ top + 2 ^ top by rw [Nat.pow_succ]; omega]
    exact hI
  · intro n i a hi hI ih
    refine br_f (by rw [mb_pow top ht]; exact nI_ge hi (by omega)) ?_
    refine wx_mt sy hn ht hi hI ?_
    intro r hr
    rw [ms_or ht hi]
    refine ⟨vp_in_nI (by omega) (by omega), ?_⟩
    rw [nI_clamp (by omega)]
    intro b eb x ex
    rw [ex, nI_1, eb]
    exact ih _ (mr_up hI hr)
theorem wx_fill {L : Nat → Nat → Bool} (sy : ∀ a b, L a b = L b a) {nb lg : Nat → Int32} (hn : mr_nb L nb) (h0 : lg 0 = 0)
    {post : SX → Prop} (h : ∀ lg', mr_T L lg' 1024 → post (nb, lg')) : wpX_fillLargest post (nb, lg) := by
  refine loop_0 (fun n i (a : Nat → Int32) => wX_fillLargest_2 post n (nI i) nb a) (fun i a => mr_T L a (2 ^ i)) 10 lg ?_ ?_ ?_
  · intro t ht
    obtain rfl : t = 0 := by omega
    exact mg_t0 h0
  · intro n a hI
    exact br_t (nI_le (b := 10) (Nat.le_refl _) (by decide)) (h a hI)
  · intro n i a hi hI ih
    refine br_f (nI_ge (b := 10) hi (by decide)) ?_
    exact wx_f10 sy hn hi hI ih
