/-! a set of points gathered one by one -/
def md_in (P : Nat → Prop) (i : Nat) (x : Int32) : Prop := ∀ j, j < 32 → (bt x j = true ↔ j < i ∧ P j)
theorem md_0 (P : Nat → Prop) : md_in P 0 0 := by
  intro j hj
  rw [b_0]
  exact ⟨fun h => absurd h (by decide), fun h => absurd h.1 (by omega)⟩
theorem md_n {P : Nat → Prop} {i : Nat} {x : Int32} (h : md_in P i x) (hp : ¬ P i) : md_in P (i + 1) x := by
  intro j hj
  rw [h j hj]
  refine ⟨fun z => ⟨by omega, z.2⟩, fun z => ⟨?_, z.2⟩⟩
  have : j ≠ i := fun e => hp (e ▸ z.2)
  omega
theorem md_y {P : Nat → Prop} {i : Nat} {x : Int32} (h : md_in P i x) (hi : i < 32) (hp : P i) : md_in P (i + 1) (x ||| ((1 : Int32) <<< (nI i &&& 31))) := by
  intro j hj
  rw [b_or, mb_one i hi j hj, Bool.or_eq_true, h j hj, decide_eq_true_iff]
  constructor
  · rintro (z | z)
    · exact ⟨by omega, z.2⟩
    · exact ⟨by omega, z ▸ hp⟩
  · rintro ⟨z1, z2⟩
    by_cases e : j = i
    · exact Or.inr e
    · exact Or.inl ⟨by omega, z2⟩
theorem md_u {P Q : Nat → Prop} {i : Nat} {x y : Int32} (h : md_in P i x) (g : md_in Q i y) (e : ∀ j, j < i → (P j ↔ Q j)) : x = y := by
  apply b_ext
  intro j hj
  apply Bool.eq_iff_iff.mpr
  rw [h j hj, g j hj]
  exact ⟨fun z => ⟨z.1, (e j z.1).1 z.2⟩, fun z => ⟨z.1, (e j z.1).2 z.2⟩⟩
def md_sp (T : Nat → Int32) (r : Int32) : Prop := md_in (fun j => T (mc_cl 1023 j) = T 1023) 10 r
def md_g (L : Nat → Nat → Bool) (r g : Int32) : Prop := md_in (fun j => bt r j = false ∧ ∃ a, a < 10 ∧ L j a = true ∧ bt r a = true) 10 g
theorem wx_is {nb lg : Nat → Int32} {a : Nat} (ha : a < 32) {post : Int32 → Prop} (h1 : lg (mc_cl 1023 a) = lg 1023 → post 1) (h0 : ¬ lg (mc_cl 1023 a) = lg 1023 → post 0) : wpX_isSpare post (nb, lg) (nI a) := by
  unfold wpX_isSpare
  dsimp only
  have h := mc_le 1023 a
  rw [mc_all ha, nI_clamp (by omega)]
  exact ⟨vp_in_nI (by omega) (by omega), br_c h1 h0⟩
theorem wx_sp {nb lg : Nat → Int32} {post : Int32 → Prop} (h : ∀ r, md_sp lg r → post r) : wpX_spareSet post (nb, lg) := by
  refine loop_0 (fun n i (x : Int32) => wX_spareSet_4 post nb lg n x (nI i)) (md_in (fun j => lg (mc_cl 1023 j) = lg 1023)) 10 0 (md_0 _) ?_ ?_
  · intro n x hI
    exact br_t (nI_le (b := 10) (Nat.le_refl _) (by decide)) (h x hI)
  · intro n i x hi hI ih
    refine br_f (nI_ge (b := 10) hi (by decide)) ?_
    refine wx_is (by omega) (fun c => ?_) (fun c => ?_)
    · refine br_f (by decide) ?_
      intro y ey z ez
      rw [ez, nI_1, ey]
      exact ih _ (md_y hI (by omega) c)
    · refine br_t rfl ?_
      intro z ez
      rw [ez, nI_1]
      exact ih _ (md_n hI c)
theorem wx_gd {L : Nat → Nat → Bool} {nb lg : Nat → Int32} (hn : mr_nb L nb) {post : Int32 → Prop} (h : ∀ r g, md_sp lg r → md_g L r g → post g) : wpX_guards post (nb, lg) := by
  unfold wpX_guards
  dsimp only
  refine wx_sp (fun r hr => ?_)
  refine loop_0 (fun n i (x : Int32) => wX_guards_9 post r nb lg n x (nI i)) (md_in (fun j => bt r j = false ∧ ∃ a, a < 10 ∧ L j a = true ∧ bt r a = true)) 10 0 (md_0 _) ?_ ?_
  · intro n x hI
    exact br_t (nI_le (b := 10) (Nat.le_refl _) (by decide)) (h r x hr hI)
  · intro n i x hi hI ih
    refine br_f (nI_ge (b := 10) hi (by decide)) ?_
    refine wx_ct (by omega) (fun c => ?_) (fun c => ?_)
    · refine br_f (by decide) ?_
      intro z ez
      rw [ez, nI_1]
      exact ih _ (md_n hI (fun e => by rw [c] at e; exact absurd e.1 (by decide)))
    · refine br_t rfl ⟨vp_in_nI hi (by omega), ?_⟩
      rw [nI_clamp (by omega)]
      have key : (¬ (nb i &&& r) = 0) ↔ ∃ a, a < 10 ∧ L i a = true ∧ bt r a = true := by
        rw [mb_ne0]
        constructor
        · rintro ⟨a, ha, e⟩
          rw [b_and, hn i hi a ha] at e
          simp only [Bool.and_eq_true, decide_eq_true_eq] at e
          exact ⟨a, e.1.1, e.1.2, e.2⟩
        · rintro ⟨a, ha, e1, e2⟩
          refine ⟨a, by omega, ?_⟩
          rw [b_and, hn i hi a (by omega), e1, e2, decide_eq_true ha]; rfl
      refine br_c (fun d => ?_) (fun d => ?_)
      · intro z ez
        rw [ez, nI_1]
        exact ih _ (md_n hI (fun e => key.2 e.2 d))
      · intro y ey z ez
        rw [ez, nI_1, ey]
        exact ih _ (md_y hI (by omega) ⟨c, key.1 d⟩)
theorem mk_d (i : Nat) (hi : i < 2 ^ 31) : nI i / 10 = nI (i / 10) := pk_div (d := 10) hi (by decide) (by decide)
theorem mk_r (i : Nat) (hi : i < 2 ^ 31) : nI i - nI i / 10 * 10 = nI (i % 10) := pk_rem (d := 10) hi (by decide) (by decide)
def md_nr (L : Nat → Nat → Bool) (r : Int32) (i : Nat) (x : Int32) : Prop := ∀ j, j < 32 → (bt x j = true ↔ j < 10 ∧ ∃ a, a < 10 ∧ 10 * a + j < i ∧ L a j = true ∧ bt r a = true)
theorem md_nn {L : Nat → Nat → Bool} {r x : Int32} {i : Nat} (h : md_nr L r i x) (z : ¬ (L (i / 10) (i % 10) = true ∧ bt r (i / 10) = true)) : md_nr L r (i + 1) x := by
  intro j hj
  rw [h j hj]
  constructor
  · rintro ⟨h1, a, h2, h3, h4⟩
    exact ⟨h1, a, h2, by omega, h4⟩
  · rintro ⟨h1, a, h2, h3, h4⟩
    refine ⟨h1, a, h2, ?_, h4⟩
    apply Classical.byContradiction
    intro w
    have e1 : i / 10 = a := by omega
    have e2 : i % 10 = j := by omega
    rw [e1, e2] at z
    exact z h4
theorem md_ny {L : Nat → Nat → Bool} {r x : Int32} {i : Nat} (hi : i < 100) (h : md_nr L r i x) (z : L (i / 10) (i % 10) = true) (z' : bt r (i / 10) = true) : md_nr L r (i + 1) (x ||| ((1 : Int32) <<< (nI (i % 10) &&& 31))) := by
  intro j hj
  rw [b_or, mb_one (i % 10) (by omega) j hj, Bool.or_eq_true, h j hj, decide_eq_true_iff]
  constructor
  · rintro (⟨h1, a, h2, h3, h4⟩ | e)
    · exact ⟨h1, a, h2, by omega, h4⟩
    · exact ⟨by omega, i / 10, by omega, by omega, e ▸ z, z'⟩
  · rintro ⟨h1, a, h2, h3, h4⟩
    by_cases w : 10 * a + j < i
    · exact Or.inl ⟨h1, a, h2, w, h4⟩
    · exact Or.inr (by omega)
theorem wy_g55 {L : Nat → Nat → Bool} (sy : ∀ a b, L a b = L b a) {ln bs : Nat → Int32} (hl : mr_ln L ln) {r : Int32} {post : Int32 → SY → Prop} (h : ∀ g, md_g L r g → post g (ln, bs)) : ∃ n, wY_guards_55 post r ln bs n 0 0 := by
  refine loop_0 (fun n i (x : Int32) => wY_guards_55 post r ln bs n x (nI i)) (md_nr L r) 100 0 ?_ ?_ ?_
  · intro j hj
    rw [b_0]
    exact ⟨fun h => absurd h (by decide), fun ⟨_, a, _, h, _⟩ => absurd h (by omega)⟩
  · intro n x hI
    refine br_t (nI_le (b := 100) (Nat.le_refl _) (by decide)) (h _ ?_)
    intro j hj
    rw [b_and, mb_not _ hj, Bool.and_eq_true, hI j hj]
    constructor
    · rintro ⟨⟨h1, a, h2, h3, h4, h5⟩, h6⟩
      exact ⟨h1, by simpa using h6, a, h2, (sy j a).trans h4, h5⟩
    · rintro ⟨h1, h6, a, h2, h4, h5⟩
      exact ⟨⟨h1, a, h2, by omega, (sy a j).trans h4, h5⟩, by simpa using h6⟩
  · intro n i x hi hI ih
    refine br_f (nI_ge (b := 100) hi (by decide)) ?_
    refine ⟨vp_in_nI hi (by omega), ?_⟩
    rw [nI_clamp (by omega)]
    have hL : ln i = 0 ↔ L (i / 10) (i % 10) = false := by
      have e : i = 10 * (i / 10) + i % 10 := by omega
      have := mk_b hl (p := i / 10) (q := i % 10) (by omega) (by omega)
      rw [← e] at this
      exact this
    refine br_c (fun c => ?_) (fun c => ?_)
    · rw [hL] at c
      intro z ez
      rw [ez, nI_1]
      exact ih _ (md_nn hI (fun e => by rw [c] at e; exact absurd e.1 (by decide)))
    · rw [hL, Bool.not_eq_false] at c
      refine ⟨by decide, ?_⟩
      refine br_c (fun d => ?_) (fun d => ?_)
      · rw [mk_d i (by omega), mb_has _ (by omega)] at d
        refine ⟨by decide, ?_⟩
        intro y ey z ez
        rw [ez, nI_1, ey, mk_r i (by omega)]
        exact ih _ (md_ny hi hI c d)
      · rw [mk_d i (by omega), mb_has _ (by omega)] at d
        intro z ez
        rw [ez, nI_1]
        exact ih _ (md_nn hI (fun e => d e.2))
theorem wy_gd {L : Nat → Nat → Bool} (sy : ∀ a b, L a b = L b a) {ln bs : Nat → Int32} (hl : mr_ln L ln) (h0 : bs 0 = 0) {post : Int32 → SY → Prop}
    (h : ∀ bs' r g, mr_T L bs' 1024 → md_sp bs' r → md_g L r g → post g (ln, bs')) : wpY_guards post (ln, bs) := by
  unfold wpY_guards
  dsimp only
  refine wy_work sy hl h0 (fun bs' hT => ?_)
  refine loop_0 (fun n i (x : Int32) => wY_guards_10 post 0 ln bs' n x (nI i)) (md_in (fun j => bs' (mc_cl 1023 j) = bs' 1023)) 10 0 (md_0 _) ?_ ?_
  · intro n x hI
    exact br_t (nI_le (b := 10) (Nat.le_refl _) (by decide)) (wy_g55 sy hl (fun g hg => h bs' x g hT hI hg))
  · intro n i x hi hI ih
    refine br_f (nI_ge (b := 10) hi (by decide)) ?_
    have hle := mc_le 1023 i
    rw [mc_all (by omega), nI_clamp (by omega)]
    refine ⟨vp_in_nI (by omega) (by omega), ?_⟩
    refine br_c (fun c => ?_) (fun c => ?_)
    · intro y ey z ez
      rw [ez, nI_1, ey]
      exact ih _ (md_y hI (by omega) c)
    · intro z ez
      rw [ez, nI_1]
      exact ih _ (md_n hI c)
theorem md_eq {L : Nat → Nat → Bool} {T U : Nat → Int32} (hT : mr_T L T 1024) (hU : mr_T L U 1024) {r r' g g' : Int32} (h1 : md_sp T r) (h2 : md_sp U r') (h3 : md_g L r g) (h4 : md_g L r' g') : g' = g := by
  have e : r' = r := by
    refine md_u h2 h1 (fun j hj => ?_)
    have hle := mc_le 1023 j
    rw [mg_un rfl (hU (mc_cl 1023 j) (by omega)) (hT _ (by omega)), mg_un rfl (hU 1023 (by omega)) (hT _ (by omega))]
  subst e
  exact md_u h4 h3 (fun j hj => Iff.rfl)
