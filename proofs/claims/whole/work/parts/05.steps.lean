/-! the lines with the one between a and b set -/
def ml_set (L : Nat → Nat → Bool) (a b : Nat) (on : Bool) : Nat → Nat → Bool := fun x y => if (x = a ∧ y = b) ∨ (x = b ∧ y = a) then on else L x y
theorem ml_y {L : Nat → Nat → Bool} {a b x y : Nat} {on : Bool} (h : (x = a ∧ y = b) ∨ (x = b ∧ y = a)) : ml_set L a b on x y = on := if_pos h
theorem ml_n {L : Nat → Nat → Bool} {a b x y : Nat} {on : Bool} (h : ¬ ((x = a ∧ y = b) ∨ (x = b ∧ y = a))) : ml_set L a b on x y = L x y := if_neg h
theorem ml_sy {L : Nat → Nat → Bool} (sy : ∀ x y, L x y = L y x) (a b : Nat) (on : Bool) : ∀ x y, ml_set L a b on x y = ml_set L a b on y x := by
  intro x y
  by_cases h : (x = a ∧ y = b) ∨ (x = b ∧ y = a)
  · rw [ml_y h, ml_y (by omega)]
  · rw [ml_n h, ml_n (by omega)]; exact sy x y
theorem ml_ir {L : Nat → Nat → Bool} (ir : ∀ x, L x x = false) {a b : Nat} (h : a ≠ b) (on : Bool) : ∀ x, ml_set L a b on x x = false := by
  intro x
  rw [ml_n (by omega)]; exact ir x
theorem ml_id {L : Nat → Nat → Bool} (sy : ∀ x y, L x y = L y x) {a b : Nat} {on : Bool} (h : L a b = on) : ml_set L a b on = L := by
  funext x y
  by_cases z : (x = a ∧ y = b) ∨ (x = b ∧ y = a)
  · rw [ml_y z]
    rcases z with ⟨rfl, rfl⟩ | ⟨rfl, rfl⟩
    · exact h.symm
    · rw [sy]; exact h.symm
  · exact ml_n z
theorem ml_2 {L : Nat → Nat → Bool} {a b : Nat} {on on' : Bool} : ml_set (ml_set L a b on) a b on' = ml_set L a b on' := by
  funext x y
  by_cases z : (x = a ∧ y = b) ∨ (x = b ∧ y = a)
  · rw [ml_y z, ml_y z]
  · rw [ml_n z, ml_n z, ml_n z]
theorem ml_fl {L : Nat → Nat → Bool} (sy : ∀ x y, L x y = L y x) {nb : Nat → Int32} (hn : mr_nb L nb) {a b : Nat} (ha : a < 10) (hb : b < 10) (hab : a ≠ b) {on : Bool} (hon : L a b = !on) :
    mr_nb (ml_set L a b on) (upd (upd nb a (nb a ^^^ ((1 : Int32) <<< (nI b &&& 31)))) b (nb b ^^^ ((1 : Int32) <<< (nI a &&& 31)))) := by
  intro p hp q hq
  by_cases e1 : p = b
  · subst e1
    rw [pk_us, b_xor, hn p hp q hq, mb_one a (by omega) q hq]
    by_cases e2 : q = a
    · subst e2
      rw [ml_y (by omega), sy p q, hon]
      simp [ha]
    · rw [ml_n (by omega)]
      simp [e2]
  · rw [pk_un e1]
    by_cases e3 : p = a
    · subst e3
      rw [pk_us, b_xor, hn p hp q hq, mb_one b (by omega) q hq]
      by_cases e2 : q = b
      · subst e2
        rw [ml_y (by omega), hon]
        simp [hb]
      · rw [ml_n (by omega)]
        simp [e2]
    · rw [pk_un e3, hn p hp q hq, ml_n (by omega)]
theorem wx_fp {L : Nat → Nat → Bool} (sy : ∀ x y, L x y = L y x) {nb lg : Nat → Int32} (hn : mr_nb L nb) (h0 : lg 0 = 0) {a b : Nat} (ha : a < 10) (hb : b < 10) (hab : a ≠ b) {on : Bool} (hon : L a b = !on)
    {post : SX → Prop} (h : ∀ nb' lg', mr_nb (ml_set L a b on) nb' → mr_T (ml_set L a b on) lg' 1024 → post (nb', lg')) : wpX_flipLine post (nb, lg) (nI a) (nI b) := by
  unfold wpX_flipLine
  dsimp only
  refine ⟨vp_in_nI ha (by omega), vp_in_nI ha (by omega), ?_⟩
  intro n1 e1
  rw [nI_clamp (by omega)] at e1
  refine ⟨vp_in_nI hb (by omega), vp_in_nI hb (by omega), ?_⟩
  intro n2 e2
  rw [nI_clamp (by omega), e1, pk_un (fun e => hab e.symm)] at e2
  have hn2 : mr_nb (ml_set L a b on) n2 := by rw [e2]; exact ml_fl sy hn ha hb hab hon
  exact wx_fill (ml_sy sy a b on) hn2 h0 (fun lg' hT => h n2 lg' hn2 hT)
theorem wx_hl {L : Nat → Nat → Bool} {nb lg : Nat → Int32} (hn : mr_nb L nb) {a b : Nat} (ha : a < 10) (hb : b < 10)
    {post : Int32 → Prop} (h1 : L a b = true → post 1) (h0 : L a b = false → post 0) : wpX_hasLine post (nb, lg) (nI a) (nI b) := by
  refine ⟨vp_in_nI ha (by omega), ?_⟩
  rw [nI_clamp (by omega)]
  have e : bt (nb a) b = L a b := by rw [hn a ha b (by omega), decide_eq_true hb, Bool.true_and]
  exact wx_ct (by omega) (fun c => ⟨rfl, h1 (e ▸ c)⟩) (fun c => ⟨rfl, h0 (e ▸ c)⟩)
def mo_I (on : Bool) : Int32 := if on = true then 1 else 0
theorem mo_n (on : Bool) : vp_nar .boolean (mo_I on) = mo_I on := by cases on <;> rfl
theorem wy_set {L : Nat → Nat → Bool} {ln bs : Nat → Int32} (hl : mr_ln L ln) {a b : Nat} (ha : a < 10) (hb : b < 10) (hab : a ≠ b) (on : Bool)
    {post : Int32 → SY → Prop} (h : ∀ ln', mr_ln (ml_set L a b on) ln' → (L a b = on → post 0 (ln', bs)) ∧ (L a b = !on → post 1 (ln', bs))) : wpY_set post (ln, bs) (nI a) (nI b) (mo_I on) := by
  unfold wpY_set
  dsimp only
  rw [mk_ix, mk_ix, mo_n]
  refine ⟨vp_in_nI (by omega) (by omega), ?_⟩
  intro x ex
  refine ⟨vp_in_nI (by omega) (by omega), ?_⟩
  intro l1 e1
  refine ⟨vp_in_nI (by omega) (by omega), ?_⟩
  intro l2 e2
  rw [nI_clamp (by omega)] at ex e1 e2
  have hl2 : mr_ln (ml_set L a b on) l2 := by
    intro p hp q hq
    by_cases z : (p = a ∧ q = b) ∨ (p = b ∧ q = a)
    · rw [ml_y z, e2, e1]
      by_cases z1 : p = b ∧ q = a
      · rw [z1.1, z1.2, pk_us]; rfl
      · rw [pk_un (by omega)]
        have z2 : p = a ∧ q = b := by omega
        rw [z2.1, z2.2, pk_us]; rfl
    · rw [ml_n z, e2, e1, pk_un (by omega), pk_un (by omega)]
      exact hl p hp q hq
  obtain ⟨h1, h2⟩ := h l2 hl2
  rw [hl a ha b hb] at ex
  rw [ex]
  cases e : L a b <;> cases on
  · exact br_t rfl (h1 e)
  · exact br_f (by decide) (h2 e)
  · exact br_f (by decide) (h2 e)
  · exact br_t rfl (h1 e)
theorem mt_1 (v : Int32) : (∃ a, a < 10 ∧ v = nI a ∧ (∀ post : Int32 → Prop, post 1 → wpX_isPoint post v) ∧ (∀ post : Int32 → Prop, post 0 → wpY_bad post v)) ∨
    ((∀ post : Int32 → Prop, post 0 → wpX_isPoint post v) ∧ (∀ post : Int32 → Prop, post 1 → wpY_bad post v)) := by
  rcases pk_ix v (n := 10) (by decide) with h | h | ⟨a, ha, rfl⟩
  · exact Or.inr ⟨fun _ hp => br_t h hp, fun _ hp => br_t h hp⟩
  · have h0 : ¬ v < 0 := Int32.not_lt.mpr (Int32.le_trans (by decide) h)
    have h9 : ¬ v ≤ 9 := fun z => absurd (Int32.le_trans h z) (by decide)
    exact Or.inr ⟨fun _ hp => br_f h0 (br_t h hp), fun _ hp => br_f h0 (br_f h9 hp)⟩
  · have h0 : ¬ nI a < 0 := nI_pos (by omega)
    exact Or.inl ⟨a, ha, rfl, fun _ hp => br_f h0 (br_f (nI_ge (b := 10) ha (by decide)) hp), fun _ hp => br_f h0 (br_t (nI_le (b := 9) (by omega) (by decide)) hp)⟩
theorem mt_2 (v w : Int32) : (∃ a b, a < 10 ∧ b < 10 ∧ a ≠ b ∧ v = nI a ∧ w = nI b ∧ (∀ post : Int32 → Prop, post 1 → wpX_isTwoPoints post v w) ∧ (∀ post : Int32 → Prop, post 0 → wpY_refused post v w)) ∨
    ((∀ post : Int32 → Prop, post 0 → wpX_isTwoPoints post v w) ∧ (∀ post : Int32 → Prop, post 1 → wpY_refused post v w)) := by
  unfold wpX_isTwoPoints wpY_refused
  rcases mt_1 v with ⟨a, ha, rfl, hX, hY⟩ | ⟨hX, hY⟩
  · rcases mt_1 w with ⟨b, hb, rfl, gX, gY⟩ | ⟨gX, gY⟩
    · by_cases e : a = b
      · exact Or.inr ⟨fun _ hp => hX _ (br_f (by decide) (gX _ (br_f (by decide) (br_t (congrArg nI e) hp)))), fun _ hp => hY _ (br_t rfl (gY _ (br_t rfl (br_t (congrArg nI e) hp))))⟩
      · have e' : ¬ nI a = nI b := fun z => e ((nI_eq (by omega) (by omega)).1 z)
        exact Or.inl ⟨a, b, ha, hb, e, rfl, rfl, fun _ hp => hX _ (br_f (by decide) (gX _ (br_f (by decide) (br_f e' hp)))), fun _ hp => hY _ (br_t rfl (gY _ (br_t rfl (br_f e' hp))))⟩
    · exact Or.inr ⟨fun _ hp => hX _ (br_f (by decide) (gX _ (br_t rfl hp))), fun _ hp => hY _ (br_t rfl (gY _ (br_f (by decide) hp)))⟩
  · exact Or.inr ⟨fun _ hp => hX _ (br_t rfl hp), fun _ hp => hY _ (br_f (by decide) hp)⟩
/-! indices under the whole set -/
theorem mb_all : ∀ i, i < 10 → Nat.testBit 1023 i = true := by decide
theorem mc_all {p : Nat} (hp : p < 32) : (1023 : Int32) &&& (((1 : Int32) <<< (nI p &&& 31)) ^^^ (-1)) = nI (mc_cl 1023 p) := mc_int 1023 hp
theorem mb_1023 : ∀ i, i < 32 → bt 1023 i = decide (i < 10) := by decide +kernel
theorem mc_two {a b : Nat} (ha : a < 32) (hb : b < 32) : (1023 : Int32) &&& ((((1 : Int32) <<< (nI a &&& 31)) ||| ((1 : Int32) <<< (nI b &&& 31))) ^^^ (-1)) = nI (mc_cl (mc_cl 1023 a) b) := by
  rw [← mc_int _ hb, ← mc_all ha]
  apply b_ext
  intro i hi
  simp only [b_and, mb_not _ hi, b_or]
  cases bt 1023 i <;> cases bt ((1 : Int32) <<< (nI a &&& 31)) i <;> cases bt ((1 : Int32) <<< (nI b &&& 31)) i <;> rfl
theorem mc_set (x : Int32) : ∃ s, s < 1024 ∧ (1023 : Int32) &&& (x ^^^ (-1)) = nI s := by
  refine ⟨((1023 : Int32) &&& (x ^^^ (-1))).toBitVec.toNat, ?_, ?_⟩
  · rw [Int32.toBitVec_and, BitVec.toNat_and]
    exact Nat.lt_of_le_of_lt Nat.and_le_left (by decide)
  · generalize (1023 : Int32) &&& (x ^^^ (-1)) = y
    apply Int32.toBitVec_inj.mp
    show y.toBitVec = BitVec.ofNat 32 y.toBitVec.toNat
    rw [BitVec.ofNat_toNat, BitVec.setWidth_eq]
theorem wx_mp {nb lg : Nat → Int32} {a b : Nat} (ha : a < 32) (hb : b < 32) {post : Int32 → Prop} (h : post (lg (mc_cl (mc_cl 1023 a) b) + 1)) : wpX_mostWithPair post (nb, lg) (nI a) (nI b) := by
  unfold wpX_mostWithPair
  dsimp only
  have h1 := mc_le 1023 a
  have h2 := mc_le (mc_cl 1023 a) b
  rw [mc_all ha, mc_int _ hb, nI_clamp (by omega), Int32.add_comm]
  exact ⟨vp_in_nI (by omega) (by omega), h⟩
theorem wx_wp {L : Nat → Nat → Bool} (sy : ∀ x y, L x y = L y x) (ir : ∀ x, L x x = false) {nb lg : Nat → Int32} (hn : mr_nb L nb) (hT : mr_T L lg 1024) {a b : Nat} (ha : a < 10) (hb : b < 10) (hab : a ≠ b)
    {post : Int32 → Prop} (h : ∀ r, (∃ n, r = nI n ∧ mg_mx (ml_set L a b false) 1023 n) → post r) : wpX_mostWithoutPair post (nb, lg) (nI a) (nI b) := by
  have h1 := mc_le 1023 a
  have hT1 : ∀ t, t < 1024 → t.testBit a = false → mg_tb (ml_set L a b false) lg t := fun t ht hf =>
    mg_tl (a := a) (fun x y hx hy => (ml_n (by omega)).symm) hf (hT t ht)
  unfold wpX_mostWithoutPair
  dsimp only
  rw [mc_all (by omega)]
  refine ⟨vp_in_nI (by omega) (by omega), ?_⟩
  rw [nI_clamp (by omega)]
  intro x3 e3
  refine loop_0 (fun n i (x : Int32) => wX_mostWithoutPair_18 post (nI a) (nI b) nb lg n x (nI i)) (fun i x => mg_iv (ml_set L a b false) 1023 a i x) 10 x3 ?_ ?_ ?_
  · rw [e3]; exact mg_i0 (hT1 _ (by omega) (mc_f _ _))
  · intro n x hI
    exact br_t (nI_le (b := 10) (Nat.le_refl _) (by decide)) (h x (mg_en (ml_sy sy a b false) hI (fun q hq _ => ms_10 (by decide) hq)))
  · intro n i x hi hI ih
    refine br_f (nI_ge (b := 10) hi (by decide)) ?_
    refine br_c (fun c => ?_) (fun c => ?_)
    · rw [nI_eq (by omega) (by omega)] at c
      intro z ez
      rw [ez, nI_1]
      refine ih _ (mg_sk hI (fun _ _ e => ?_))
      rw [ml_y (by omega)] at e
      exact absurd e (by decide)
    · rw [nI_eq (by omega) (by omega)] at c
      have hL : ml_set L a b false a i = L a i := ml_n (by omega)
      refine wx_hl hn ha hi (fun d => ?_) (fun d => ?_)
      · refine br_f (by decide) ?_
        refine wx_mp (by omega) (by omega) ?_
        have hia : i ≠ a := fun e => by rw [e, ir a] at d; exact absurd d (by decide)
        have h2 := mc_le (mc_cl 1023 a) i
        have hTi : mg_tb (ml_set L a b false) lg (mc_cl (mc_cl 1023 a) i) := hT1 _ (by omega) (by rw [mc_tb, mc_f]; rfl)
        refine br_c (fun f z ez => ?_) (fun f z ez => ?_)
        · rw [ez, nI_1]; exact ih _ (mg_no (by decide) hI hTi f)
        · rw [ez, nI_1]; exact ih _ (mg_ye (by decide) hI (mb_all a ha) (mb_all i hi) hia (hL.trans d) hTi f)
      · refine br_t rfl ?_
        intro z ez
        rw [ez, nI_1]
        refine ih _ (mg_sk hI (fun _ _ e => ?_))
        rw [hL, d] at e
        exact absurd e (by decide)
theorem wy_most {L : Nat → Nat → Bool} (sy : ∀ a b, L a b = L b a) {ln bs : Nat → Int32} (hl : mr_ln L ln) (h0 : bs 0 = 0)
    {post : Int32 → SY → Prop} (h : ∀ bs', mr_T L bs' 1024 → post (bs' 1023) (ln, bs')) : wpY_most post (ln, bs) := by
  unfold wpY_most
  dsimp only
  exact wy_work sy hl h0 (fun bs' hT => h bs' hT)
