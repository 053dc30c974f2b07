/-! reaching: the flat run of rounds and points -/
def mp_st (nb : Nat → Int32) (al x : Int32) (p : Nat) : Int32 := if bt x p = true then x ||| (nb p &&& al) else x
def mp_fl (nb : Nat → Int32) (al x0 : Int32) : Nat → Int32
  | 0 => x0
  | e + 1 => mp_st nb al (mp_fl nb al x0 e) (e % 10)
theorem mp_s (nb : Nat → Int32) (al x0 : Int32) (e : Nat) : mp_fl nb al x0 (e + 1) = mp_st nb al (mp_fl nb al x0 e) (e % 10) := rfl
theorem mp_mo {nb : Nat → Int32} {al x0 : Int32} {j : Nat} (h : bt x0 j = true) : ∀ e, bt (mp_fl nb al x0 e) j = true := by
  intro e
  induction e with
  | zero => exact h
  | succ e ih =>
    rw [mp_s]
    unfold mp_st
    by_cases c : bt (mp_fl nb al x0 e) (e % 10) = true
    · rw [if_pos c, b_or, ih]; rfl
    · rw [if_neg c]; exact ih
theorem wx_r17 {nb lg : Nat → Int32} {al x0 : Int32} {k : Nat} (hk : k < 10) {post : Int32 → Prop} {J7 : Int32 → Int32 → Prop} (h : J7 (mp_fl nb al x0 (10 * (k + 1))) (nI (k + 1))) :
    ∃ n, wX_reachedFrom_17 post J7 al (nI k) nb lg n (mp_fl nb al x0 (10 * k)) 0 := by
  refine loop_0 (fun n i (x : Int32) => wX_reachedFrom_17 post J7 al (nI k) nb lg n x (nI i)) (fun i x => x = mp_fl nb al x0 (10 * k + i)) 10 _ rfl ?_ ?_
  · intro n x hI
    refine br_t (nI_le (b := 10) (Nat.le_refl _) (by decide)) ?_
    intro z ez
    rw [ez, nI_1, hI]
    exact h
  · intro n i x hi hI ih
    refine br_f (nI_ge (b := 10) hi (by decide)) ?_
    have hm : (10 * k + i) % 10 = i := by omega
    have hs : mp_fl nb al x0 (10 * k + (i + 1)) = mp_st nb al x i := by
      rw [← Nat.add_assoc, mp_s, hm, ← hI]
    refine wx_ct (by omega) (fun c => ?_) (fun c => ?_)
    · refine br_f (by decide) ⟨vp_in_nI hi (by omega), ?_⟩
      rw [nI_clamp (by omega)]
      intro y ey z ez
      rw [ez, nI_1]
      refine ih _ ?_
      rw [hs, ey]
      exact (if_pos c).symm
    · refine br_t rfl ?_
      intro z ez
      rw [ez, nI_1]
      refine ih _ ?_
      rw [hs]
      exact (if_neg (by rw [c]; decide)).symm
theorem wx_rf {nb lg : Nat → Int32} {al : Int32} {a : Nat} {post : Int32 → Prop} (h : post (mp_fl nb al ((1 : Int32) <<< (nI a &&& 31)) 100)) : wpX_reachedFrom post (nb, lg) (nI a) al := by
  unfold wpX_reachedFrom
  dsimp only
  intro x ex
  refine loop_0 (fun n k (x : Int32) => wX_reachedFrom_7 post al nb lg n x (nI k)) (fun k x => x = mp_fl nb al ((1 : Int32) <<< (nI a &&& 31)) (10 * k)) 10 x ex ?_ ?_
  · intro n x hI
    exact br_t (nI_le (b := 10) (Nat.le_refl _) (by decide)) (by rw [hI]; exact h)
  · intro n i x hi hI ih
    refine br_f (nI_ge (b := 10) hi (by decide)) ?_
    rw [hI]
    exact wx_r17 hi (ih _ rfl)
def mp_iv (L : Nat → Nat → Bool) (nb : Nat → Int32) (al x0 : Int32) (i : Nat) (x : Int32) : Prop := ∀ j, j < 32 →
  bt x j = (bt (mp_fl nb al x0 (i / 10)) j || (bt (mp_fl nb al x0 (i / 10)) (i / 10 % 10) && (decide (j < i % 10) && (L (i / 10 % 10) j && bt al j))))
theorem mp_nx {L : Nat → Nat → Bool} {nb : Nat → Int32} (hn : mr_nb L nb) {al x0 x y : Int32} {i : Nat} (h : mp_iv L nb al x0 i x)
    (hy : ∀ j, j < 32 → bt y j = (bt x j || (decide (j = i % 10) && (L (i / 10 % 10) (i % 10) && (bt (mp_fl nb al x0 (i / 10)) (i / 10 % 10) && bt al (i % 10)))))) : mp_iv L nb al x0 (i + 1) y := by
  intro j hj
  rw [hy j hj, h j hj]
  by_cases b9 : i % 10 = 9
  · have e1 : (i + 1) / 10 = i / 10 + 1 := by omega
    have e2 : (i + 1) % 10 = 0 := by omega
    rw [e1, e2, mp_s, decide_eq_false (by omega : ¬ j < 0), Bool.false_and, Bool.and_false, Bool.or_false]
    unfold mp_st
    by_cases c : bt (mp_fl nb al x0 (i / 10)) (i / 10 % 10) = true
    · rw [if_pos c, b_or, b_and, hn _ (by omega) j hj, c, b9]
      rcases Nat.lt_trichotomy j 9 with z | z | z
      · rw [decide_eq_true z, decide_eq_false (by omega : ¬ j = 9), decide_eq_true (by omega : j < 10)]
        simp
      · subst z
        simp
      · rw [decide_eq_false (by omega : ¬ j < 9), decide_eq_false (by omega : ¬ j = 9), decide_eq_false (by omega : ¬ j < 10)]
        simp
    · rw [if_neg c]
      rw [Bool.not_eq_true] at c
      rw [c]
      simp
  · have e1 : (i + 1) / 10 = i / 10 := by omega
    have e2 : (i + 1) % 10 = i % 10 + 1 := by omega
    rw [e1, e2]
    by_cases z : j = i % 10
    · rw [← z, decide_eq_false (by omega : ¬ j < j), decide_eq_true (rfl : j = j), decide_eq_true (by omega : j < j + 1)]
      cases bt (mp_fl nb al x0 (i / 10)) j <;> cases bt (mp_fl nb al x0 (i / 10)) (i / 10 % 10) <;> cases L (i / 10 % 10) j <;> cases bt al j <;> rfl
    · have hd : decide (j < i % 10 + 1) = decide (j < i % 10) := decide_eq_decide.mpr (by omega)
      rw [decide_eq_false z, hd]
      simp
theorem wy_25 {L : Nat → Nat → Bool} (ir : ∀ a, L a a = false) {nb ln bs : Nat → Int32} (hn : mr_nb L nb) (hl : mr_ln L ln) {al x0 c : Int32} {post : Int32 → SY → Prop} {J13 : Int32 → Int32 → Prop}
    (h : J13 (al &&& (mp_fl nb al x0 100 ^^^ (-1))) (c + 1)) : ∃ n, wY_parts_25 post J13 al c ln bs n x0 0 := by
  refine loop_0 (fun n i (x : Int32) => wY_parts_25 post J13 al c ln bs n x (nI i)) (mp_iv L nb al x0) 1000 x0 ?_ ?_ ?_
  · intro j hj
    show bt x0 j = (bt x0 j || (bt x0 0 && (decide (j < 0) && (L 0 j && bt al j))))
    rw [decide_eq_false (by omega : ¬ j < 0)]
    simp
  · intro n x hI
    refine br_t (nI_le (b := 1000) (Nat.le_refl _) (by decide)) ?_
    have e : x = mp_fl nb al x0 100 := by
      apply b_ext
      intro j hj
      have := hI j hj
      rw [decide_eq_false (by omega : ¬ j < 1000 % 10)] at this
      simpa using this
    intro y ey z ez
    rw [ez, ey, e]
    exact h
  · intro n i x hi hI ih
    refine br_f (nI_ge (b := 1000) hi (by decide)) ?_
    refine ⟨by decide, by decide, ?_⟩
    intro x5 e5
    rw [mk_d i (by omega), mk_r _ (by omega)] at e5
    refine ⟨by decide, ?_⟩
    intro x6 e6
    rw [mk_r i (by omega)] at e6
    rw [e5, e6, mk_ix]
    refine ⟨vp_in_nI (by omega) (by omega), ?_⟩
    rw [nI_clamp (by omega), mk_b hl (by omega) (by omega), mb_has _ (by omega), mb_has _ (by omega)]
    have hxa : bt x (i / 10 % 10) = bt (mp_fl nb al x0 (i / 10)) (i / 10 % 10) := by
      rw [hI _ (by omega), ir]
      simp
    refine br_c (fun d => ?_) (fun d => ?_)
    · intro z ez
      rw [ez, nI_1]
      exact ih _ (mp_nx hn hI (fun j hj => by rw [d]; simp))
    · rw [Bool.not_eq_false] at d
      refine br_c (fun f => ?_) (fun f => ?_)
      · rw [hxa] at f
        refine br_c (fun g => ?_) (fun g => ?_)
        · intro y ey z ez
          rw [ez, nI_1, ey]
          exact ih _ (mp_nx hn hI (fun j hj => by rw [b_or, mb_one _ (by omega) j hj, d, f, g]; simp))
        · rw [Bool.not_eq_true] at g
          intro z ez
          rw [ez, nI_1]
          exact ih _ (mp_nx hn hI (fun j hj => by rw [g]; simp))
      · rw [hxa, Bool.not_eq_true] at f
        intro z ez
        rw [ez, nI_1]
        exact ih _ (mp_nx hn hI (fun j hj => by rw [f]; simp))
theorem mp_low {u : Int32} {p : Nat} (hp : p < 32) (h : bt u p = true) (hl : ∀ j, j < p → bt u j = false) : u &&& (-u) = (1 : Int32) <<< (nI p &&& 31) := by
  apply b_ext
  intro i hi
  have hneg : bt (-u) i = (bt u i ^^ decide (i < 32 ∧ ∃ j, j < i ∧ bt u j = true)) := by
    unfold bt
    rw [Int32.toBitVec_neg, BitVec.getLsbD_neg]
    simp [hi]
  rw [b_and, mb_one p hp i hi, hneg]
  rcases Nat.lt_trichotomy i p with z | z | z
  · rw [hl i z, decide_eq_false (by omega : ¬ i = p)]; rfl
  · subst z
    rw [h, decide_eq_true (rfl : i = i), decide_eq_false]
    · rfl
    · rintro ⟨_, j, hj, e⟩
      rw [hl j hj] at e
      exact absurd e (by decide)
  · rw [decide_eq_false (by omega : ¬ i = p), decide_eq_true (⟨hi, p, z, h⟩ : i < 32 ∧ ∃ j, j < i ∧ bt u j = true)]
    cases bt u i <;> rfl
theorem mp_go {L : Nat → Nat → Bool} (ir : ∀ a, L a a = false) {nb lg ln : Nat → Int32} (hn : mr_nb L nb) (hl : mr_ln L ln) : ∀ (d p : Nat) (u c : Int32), p + d = 10 → (∀ j, j < 32 → bt u j = true → p ≤ j ∧ j < 10) →
    ∃ r, (∀ post : Int32 → Prop, post r → wX_parts_15 post nb lg (d + 1) u c (nI p)) ∧ (∀ (bs : Nat → Int32) (post : Int32 → SY → Prop), post r (ln, bs) → ∃ n, wY_parts_13 post ln bs n u c) := by
  intro d
  induction d with
  | zero =>
    intro p u c hp hu
    have e : u = 0 := by
      apply Classical.byContradiction
      intro z
      obtain ⟨i, hi, h⟩ := (mb_ne0 u).1 z
      have := hu i hi h
      omega
    exact ⟨c, fun post hr => br_t (nI_le (a := 10) (by omega) (by omega)) hr, fun bs post hr => ⟨1, br_t e hr⟩⟩
  | succ d ih =>
    intro p u c hp hu
    cases e : bt u p
    · obtain ⟨r, hX, hY⟩ := ih (p + 1) u c (by omega) (fun j hj h => by
        have h1 := hu j hj h
        have h2 : j ≠ p := fun z => by rw [z, e] at h; exact absurd h (by decide)
        omega)
      refine ⟨r, fun post hr => br_f (nI_ge (b := 10) (by omega) (by decide)) ?_, hY⟩
      refine wx_ct (by omega) (fun z => by rw [e] at z; exact absurd z (by decide)) (fun _ => br_t rfl ?_)
      intro z ez
      rw [ez, nI_1]
      exact hX post hr
    · obtain ⟨r, hX, hY⟩ := ih (p + 1) (u &&& (mp_fl nb u ((1 : Int32) <<< (nI p &&& 31)) 100 ^^^ (-1))) (c + 1) (by omega) (fun j hj h => by
        rw [b_and, mb_not _ hj, Bool.and_eq_true] at h
        have h1 := hu j hj h.1
        have h2 : j ≠ p := fun z => by
          have h3 := h.2
          rw [z, mp_mo (by rw [mb_one p (by omega) p (by omega)]; exact decide_eq_true rfl) 100] at h3
          exact absurd h3 (by decide)
        omega)
      refine ⟨r, fun post hr => br_f (nI_ge (b := 10) (by omega) (by decide)) ?_, fun bs post hr => ?_⟩
      · refine wx_ct (by omega) (fun _ => br_f (by decide) ?_) (fun z => by rw [e] at z; exact absurd z (by decide))
        refine wx_rf ?_
        intro x ex y ey z ez
        rw [ez, nI_1, ex, ey]
        exact hX post hr
      · obtain ⟨n, hn'⟩ := hY bs post hr
        refine ⟨n + 1, br_f ((mb_ne0 u).2 ⟨p, by omega, e⟩) ?_⟩
        intro x ex
        rw [ex, mp_low (p := p) (by omega) e (fun j hj => by
          cases f : bt u j
          · rfl
          · have := (hu j (by omega) f).1
            omega)]
        exact wy_25 ir hn hl hn'
