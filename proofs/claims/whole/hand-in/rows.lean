section
theorem pk_us {f : Nat → Int32} {k : Nat} {x : Int32} : upd f k x k = x := if_pos rfl
theorem pk_un {f : Nat → Int32} {k j : Nat} {x : Int32} (h : j ≠ k) : upd f k x j = f j := if_neg h
theorem pk_sub {a b : Nat} (h : b ≤ a) : nI a - nI b = nI (a - b) := by
  obtain ⟨c, rfl⟩ : ∃ c, a = c + b := ⟨a - b, by omega⟩
  rw [← nI_add, Int32.add_sub_cancel, Nat.add_sub_cancel]
theorem pk_mul (a b : Nat) : nI a * nI b = nI (a * b) := (Int32.ofNat_mul a b).symm
theorem pk_div {a d : Nat} (ha : a < 2 ^ 31) (h0 : 0 < d) (hd : d < 2 ^ 31) : nI a / nI d = nI (a / d) := by
  apply Int32.toInt_inj.mp
  rw [lg_idiv_nonneg (by rw [nI_toInt ha]; omega) (by rw [nI_toInt hd]; omega), nI_toInt ha, nI_toInt hd, nI_toInt (Nat.lt_of_le_of_lt (Nat.div_le_self a d) ha)]
  first | rfl | exact (Int.natCast_ediv _ _).symm
theorem pk_rem {a d : Nat} (ha : a < 2 ^ 31) (h0 : 0 < d) (hd : d < 2 ^ 31) : nI a - nI a / nI d * nI d = nI (a % d) := by
  rw [pk_div ha h0 hd, pk_mul, pk_sub (Nat.div_mul_le_self a d)]
  exact congrArg nI (by have := Nat.div_add_mod' a d; omega)
theorem pk_ix (x : Int32) {n : Nat} (hn : n < 2 ^ 31) : x < 0 ∨ nI n ≤ x ∨ ∃ j : Nat, j < n ∧ x = nI j := by
  by_cases h : x < 0
  · exact Or.inl h
  · obtain ⟨j, hj, rfl⟩ := nI_of h
    by_cases h2 : j < n
    · exact Or.inr (Or.inr ⟨j, h2, rfl⟩)
    · exact Or.inr (Or.inl (nI_le (by omega) hj))
theorem pk_le {x y : Int32} {A B : Prop} (a b : Nat) (f : a ≤ b → A) (g : b < a → B) (hx : x = nI a := by rfl) (hy : y = nI b := by rfl) (ha : a < 2 ^ 31 := by omega) (hb : b < 2 ^ 31 := by omega) : (x ≤ y → A) ∧ (¬ x ≤ y → B) := by
  subst hx hy
  rw [nI_leI ha hb]
  exact ⟨f, fun z => g (by omega)⟩
theorem pk_lt {x y : Int32} {A B : Prop} (a b : Nat) (f : a < b → A) (g : b ≤ a → B) (hx : x = nI a := by rfl) (hy : y = nI b := by rfl) (ha : a < 2 ^ 31 := by omega) (hb : b < 2 ^ 31 := by omega) : (x < y → A) ∧ (¬ x < y → B) := by
  subst hx hy
  rw [nI_ltI ha hb]
  exact ⟨f, fun z => g (by omega)⟩
theorem pk_eq {x y : Int32} {A B : Prop} (a b : Nat) (f : a = b → A) (g : a ≠ b → B) (hx : x = nI a := by rfl) (hy : y = nI b := by rfl) (ha : a < 2 ^ 31 := by omega) (hb : b < 2 ^ 31 := by omega) : (x = y → A) ∧ (¬ x = y → B) := by
  subst hx hy
  rw [nI_eq ha hb]
  exact ⟨f, g⟩
theorem pk_in {x : Int32} (n N : Nat) (h : n < N) (hx : x = nI n := by rfl) (hN : N < 2 ^ 31 := by omega) : vp_in x N := by
  subst hx
  exact vp_in_nI h hN
theorem pk_cl {x : Int32} (n : Nat) (hx : x = nI n := by rfl) (h : n < 2 ^ 31 := by omega) : x.toNatClampNeg = n := by
  subst hx
  exact nI_clamp h
theorem pk_loop {σ : Type} (W : Nat → Nat → σ → Prop) (I : Nat → σ → Prop) (e i0 : Nat) (s : σ) (hi : i0 ≤ e) (h0 : I i0 s) (hx : ∀ n s, I e s → W (n + 1) e s)
    (hs : ∀ n i s, i < e → I i s → (∀ s', I (i + 1) s' → W n (i + 1) s') → W (n + 1) i s) : ∃ n, W n i0 s :=
  ⟨e + 1, loop_i W I e hx hs (e + 1) i0 s hi (by omega) h0⟩
def bt (x : Int32) (i : Nat) : Bool := x.toBitVec.getLsbD i
theorem b_ext {x y : Int32} (h : ∀ i, i < 32 → bt x i = bt y i) : x = y := Int32.toBitVec_inj.mp (BitVec.eq_of_getLsbD_eq (fun i hi => h i hi))
theorem b_or (x y : Int32) (i : Nat) : bt (x ||| y) i = (bt x i || bt y i) := by unfold bt; rw [Int32.toBitVec_or, BitVec.getLsbD_or]
theorem b_and (x y : Int32) (i : Nat) : bt (x &&& y) i = (bt x i && bt y i) := by unfold bt; rw [Int32.toBitVec_and, BitVec.getLsbD_and]
theorem b_xor (x y : Int32) (i : Nat) : bt (x ^^^ y) i = (bt x i ^^ bt y i) := by unfold bt; rw [Int32.toBitVec_xor, BitVec.getLsbD_xor]
theorem b_big {x : Int32} {i : Nat} (h : 32 ≤ i) : bt x i = false := BitVec.getLsbD_of_ge _ _ h
theorem b_m1 : ∀ i, i < 32 → bt (-1) i = true := by decide +kernel
theorem b_0 (i : Nat) : bt 0 i = false := BitVec.getLsbD_zero
theorem s_l : ∀ n, n < 32 → ((nI n &&& 31).toBitVec.smod 32).toNat = n := by decide +kernel
theorem b_shl (n : Nat) (hn : n < 32) (x : Int32) {i : Nat} (hi : i < 32) : bt (x <<< (nI n &&& 31)) i = (decide (n ≤ i) && bt x (i - n)) := by
  unfold bt
  rw [Int32.toBitVec_shiftLeft]
  show (x.toBitVec <<< ((nI n &&& 31).toBitVec.smod 32).toNat).getLsbD i = _
  rw [s_l n hn, BitVec.getLsbD_shiftLeft]
  rcases Nat.lt_or_ge i n with h | h
  · simp [h, Nat.not_le.mpr h]
  · simp [hi, h, Nat.not_lt.mpr h]
theorem b_sshr (n : Nat) (hn : n < 32) (x : Int32) {i : Nat} (hi : i < 32) : bt (x >>> (nI n &&& 31)) i = if n + i < 32 then bt x (n + i) else bt x 31 := by
  unfold bt
  rw [Int32.toBitVec_shiftRight]
  show (x.toBitVec.sshiftRight ((nI n &&& 31).toBitVec.smod 32).toNat).getLsbD i = _
  rw [s_l n hn, BitVec.getLsbD_sshiftRight, BitVec.msb_eq_getLsbD_last]
  simp [hi]
theorem mb_nI (n : Nat) {i : Nat} (hi : i < 32) : bt (nI n) i = n.testBit i := by
  show (BitVec.ofNat 32 n).getLsbD i = _
  rw [BitVec.getLsbD_ofNat, decide_eq_true hi, Bool.true_and]
theorem mb_one : ∀ p, p < 32 → ∀ i, i < 32 → bt ((1 : Int32) <<< (nI p &&& 31)) i = decide (i = p) := by decide +kernel
theorem mb_1 : ∀ i, i < 32 → bt 1 i = decide (i = 0) := by decide +kernel
theorem mb_not (x : Int32) {i : Nat} (hi : i < 32) : bt (x ^^^ (-1)) i = !bt x i := by
  rw [b_xor, b_m1 i hi]; cases bt x i <;> rfl
theorem mb_b0 (x : Int32) {p : Nat} (hp : p < 32) : bt (x >>> (nI p &&& 31)) 0 = bt x p := by
  rw [b_sshr p hp x (by omega), if_pos (by omega)]; rfl
theorem mb_and1 (y : Int32) : y &&& 1 = 1 ↔ bt y 0 = true := by
  constructor
  · intro h
    have e : bt (y &&& 1) 0 = bt 1 0 := by rw [h]
    rw [b_and, mb_1 0 (by omega)] at e
    simpa using e
  · intro h
    apply b_ext
    intro i hi
    rw [b_and, mb_1 i hi]
    by_cases z : i = 0
    · subst z; rw [h]; rfl
    · rw [decide_eq_false z]; cases bt y i <;> rfl
theorem mb_and0 (y : Int32) : y &&& 1 = 0 ↔ bt y 0 = false := by
  constructor
  · intro h
    have e : bt (y &&& 1) 0 = bt 0 0 := by rw [h]
    rw [b_and, mb_1 0 (by omega), b_0] at e
    simpa using e
  · intro h
    apply b_ext
    intro i hi
    rw [b_and, mb_1 i hi, b_0]
    by_cases z : i = 0
    · subst z; rw [h]; rfl
    · rw [decide_eq_false z]; cases bt y i <;> rfl
theorem mb_has (x : Int32) {p : Nat} (hp : p < 32) : ((x >>> (nI p &&& 31)) &&& 1) = 1 ↔ bt x p = true := by
  rw [mb_and1, mb_b0 x hp]
theorem mb_has0 (x : Int32) {p : Nat} (hp : p < 32) : ((x >>> (nI p &&& 31)) &&& 1) = 0 ↔ bt x p = false := by
  rw [mb_and0, mb_b0 x hp]
theorem mb_ne0 (x : Int32) : (¬ x = 0) ↔ ∃ i, i < 32 ∧ bt x i = true := by
  constructor
  · intro h
    apply Classical.byContradiction
    intro z
    apply h
    apply b_ext
    intro i hi
    rw [b_0]
    cases e : bt x i
    · rfl
    · exact absurd ⟨i, hi, e⟩ z
  · rintro ⟨i, _, h⟩ z
    rw [z, b_0] at h
    exact absurd h (by decide)
/-! a set of points as a number: one point cleared -/
def mc_cl (s a : Nat) : Nat := if s.testBit a = true then s ^^^ 2 ^ a else s
theorem mc_tb (s a i : Nat) : (mc_cl s a).testBit i = (s.testBit i && decide (i ≠ a)) := by
  unfold mc_cl
  by_cases h : s.testBit a = true
  · rw [if_pos h, Nat.testBit_xor, Nat.testBit_two_pow]
    by_cases z : i = a
    · subst z; simp [h]
    · have z' : ¬ a = i := fun e => z e.symm
      simp [z, z']
  · rw [if_neg h]
    by_cases z : i = a
    · subst z
      have h' : s.testBit i = false := by cases e : s.testBit i <;> simp_all
      simp [h']
    · simp [z]
theorem mc_t {s a i : Nat} (h : (mc_cl s a).testBit i = true) : s.testBit i = true ∧ i ≠ a := by
  rw [mc_tb] at h
  simpa using h
theorem mc_i {s a i : Nat} (h : s.testBit i = true) (n : i ≠ a) : (mc_cl s a).testBit i = true := by
  rw [mc_tb, h, decide_eq_true n]; rfl
theorem mc_f (s a : Nat) : (mc_cl s a).testBit a = false := by
  rw [mc_tb]; simp
theorem mc_le (s a : Nat) : mc_cl s a ≤ s := by
  have e : mc_cl s a = s &&& mc_cl s a := by
    apply Nat.eq_of_testBit_eq
    intro i
    rw [Nat.testBit_and, mc_tb]
    cases s.testBit i <;> rfl
  rw [e]
  exact Nat.and_le_left
theorem mc_lt {s a : Nat} (h : s.testBit a = true) : mc_cl s a < s := by
  apply Nat.lt_of_le_of_ne (mc_le s a)
  intro e
  have f := mc_f s a
  rw [e, h] at f
  exact absurd f (by decide)
theorem mc_comm (s a b : Nat) : mc_cl (mc_cl s a) b = mc_cl (mc_cl s b) a := by
  apply Nat.eq_of_testBit_eq
  intro i
  simp only [mc_tb]
  cases s.testBit i <;> cases decide (i ≠ a) <;> cases decide (i ≠ b) <;> rfl
theorem mc_int (s : Nat) {p : Nat} (hp : p < 32) : nI s &&& (((1 : Int32) <<< (nI p &&& 31)) ^^^ (-1)) = nI (mc_cl s p) := by
  apply b_ext
  intro i hi
  rw [b_and, mb_not _ hi, mb_one p hp i hi, mb_nI _ hi, mb_nI _ hi, mc_tb]
  by_cases z : i = p <;> simp [z]
end
section
/-! pairings: n lines, no two with a point in common, within the set s -/
def mg_can (L : Nat → Nat → Bool) : Nat → Nat → Prop
  | 0, _ => True
  | n + 1, s => ∃ a b, a ≠ b ∧ s.testBit a = true ∧ s.testBit b = true ∧ L a b = true ∧ mg_can L n (mc_cl (mc_cl s a) b)
theorem mg_mono {L : Nat → Nat → Bool} : ∀ (n s t : Nat), (∀ i, s.testBit i = true → t.testBit i = true) → mg_can L n s → mg_can L n t := by
  intro n
  induction n with
  | zero => intro s t _ _; trivial
  | succ n ih =>
    intro s t h hc
    obtain ⟨a, b, hab, ha, hb, hL, hc⟩ := hc
    refine ⟨a, b, hab, h a ha, h b hb, hL, ih _ _ ?_ hc⟩
    intro i hi
    obtain ⟨h1, n1⟩ := mc_t hi
    obtain ⟨h2, n2⟩ := mc_t h1
    exact mc_i (mc_i (h i h2) n2) n1
theorem mg_bnd {L : Nat → Nat → Bool} : ∀ (n s : Nat), mg_can L n s → n ≤ s := by
  intro n
  induction n with
  | zero => intro s _; exact Nat.zero_le _
  | succ n ih =>
    intro s hc
    obtain ⟨a, b, hab, ha, hb, hL, hc⟩ := hc
    have h1 := ih _ hc
    have h2 := mc_le (mc_cl s a) b
    have h3 := mc_lt ha
    omega
theorem mg_up {L : Nat → Nat → Bool} {n s p : Nat} (h : mg_can L n (mc_cl s p)) : mg_can L n s := mg_mono n _ _ (fun _ hi => (mc_t hi).1) h
theorem mg_rem {L : Nat → Nat → Bool} (sy : ∀ a b, L a b = L b a) : ∀ (n s p : Nat), mg_can L n s →
    mg_can L n (mc_cl s p) ∨ ∃ m q, n = m + 1 ∧ q ≠ p ∧ s.testBit q = true ∧ L p q = true ∧ mg_can L m (mc_cl (mc_cl s p) q) := by
  intro n
  induction n with
  | zero => intro s p _; exact Or.inl trivial
  | succ n ih =>
    intro s p hc
    obtain ⟨a, b, hab, ha, hb, hL, hc⟩ := hc
    by_cases e1 : a = p
    · subst e1
      exact Or.inr ⟨n, b, rfl, fun e => hab e.symm, hb, hL, hc⟩
    · by_cases e2 : b = p
      · subst e2
        exact Or.inr ⟨n, a, rfl, hab, ha, (sy b a).trans hL, (mc_comm s a b) ▸ hc⟩
      · rcases ih _ p hc with h | ⟨m, q, hn, hq, hs, hl, hm⟩
        · refine Or.inl ⟨a, b, hab, mc_i ha e1, mc_i hb e2, hL, ?_⟩
          rw [mc_comm s p a, mc_comm _ p b]; exact h
        · obtain ⟨h1, n1⟩ := mc_t hs
          obtain ⟨h2, n2⟩ := mc_t h1
          refine Or.inr ⟨n, q, rfl, hq, h2, hl, ?_⟩
          subst hn
          refine ⟨a, b, hab, mc_i (mc_i ha e1) (fun e => n2 e.symm), mc_i (mc_i hb e2) (fun e => n1 e.symm), hL, ?_⟩
          rw [mc_comm _ q a, mc_comm s p a, mc_comm _ q b, mc_comm _ p b]; exact hm
theorem mg_loc {L L' : Nat → Nat → Bool} {a : Nat} (h : ∀ x y, x ≠ a → y ≠ a → L x y = L' x y) : ∀ (n s : Nat), s.testBit a = false → mg_can L n s → mg_can L' n s := by
  intro n
  induction n with
  | zero => intro s _ _; trivial
  | succ n ih =>
    intro s hs hc
    obtain ⟨x, y, hxy, hx, hy, hL, hc⟩ := hc
    have n1 : x ≠ a := fun e => by rw [e, hs] at hx; exact absurd hx (by decide)
    have n2 : y ≠ a := fun e => by rw [e, hs] at hy; exact absurd hy (by decide)
    refine ⟨x, y, hxy, hx, hy, (h x y n1 n2).symm.trans hL, ih _ ?_ hc⟩
    rw [mc_tb, mc_tb, hs]; rfl
def mg_mx (L : Nat → Nat → Bool) (s n : Nat) : Prop := mg_can L n s ∧ ∀ m, mg_can L m s → m ≤ n
/-- cell s of the table T holds the size of a largest pairing within s -/
def mg_tb (L : Nat → Nat → Bool) (T : Nat → Int32) (s : Nat) : Prop := ∃ n, T s = nI n ∧ mg_mx L s n
theorem mg_un {L : Nat → Nat → Bool} {T U : Nat → Int32} {s t : Nat} (hs : s = t) (h : mg_tb L T s) (h' : mg_tb L U t) : T s = U t := by
  subst hs
  obtain ⟨n, e, h1, h2⟩ := h
  obtain ⟨m, e', h3, h4⟩ := h'
  have a := h2 m h3
  have b := h4 n h1
  rw [e, e', Nat.le_antisymm a b]
theorem mg_t0 {L : Nat → Nat → Bool} {T : Nat → Int32} (h : T 0 = 0) : mg_tb L T 0 := ⟨0, h, trivial, fun m hm => mg_bnd m 0 hm⟩
theorem mg_0t {L : Nat → Nat → Bool} {T : Nat → Int32} (h : mg_tb L T 0) : T 0 = 0 := by
  obtain ⟨n, e, h1, _⟩ := h
  have := mg_bnd n 0 h1
  obtain rfl : n = 0 := by omega
  exact e
theorem mg_tl {L L' : Nat → Nat → Bool} {a s : Nat} (h : ∀ x y, x ≠ a → y ≠ a → L x y = L' x y) (hs : s.testBit a = false) {T : Nat → Int32} (ht : mg_tb L T s) : mg_tb L' T s := by
  obtain ⟨n, e, h1, h2⟩ := ht
  exact ⟨n, e, mg_loc h n s hs h1, fun m hm => h2 m (mg_loc (fun x y hx hy => (h x y hx hy).symm) m s hs hm)⟩
/-! the search over the partners of the point p of s: what the best so far is, once the partners below i are through -/
def mg_iv (L : Nat → Nat → Bool) (s p i : Nat) (x : Int32) : Prop := ∃ n, x = nI n ∧ mg_can L n s ∧ (∀ m, mg_can L m (mc_cl s p) → m ≤ n) ∧
  ∀ q, q < i → q ≠ p → s.testBit q = true → L p q = true → ∀ m, mg_can L m (mc_cl (mc_cl s p) q) → m + 1 ≤ n
theorem mg_i0 {L : Nat → Nat → Bool} {s p : Nat} {T : Nat → Int32} (h : mg_tb L T (mc_cl s p)) : mg_iv L s p 0 (T (mc_cl s p)) := by
  obtain ⟨n, e, h1, h2⟩ := h
  exact ⟨n, e, mg_up h1, h2, fun q hq => absurd hq (by omega)⟩
theorem mg_sk {L : Nat → Nat → Bool} {s p i : Nat} {x : Int32} (h : mg_iv L s p i x) (z : i ≠ p → s.testBit i = true → L p i = true → False) : mg_iv L s p (i + 1) x := by
  obtain ⟨n, e, h1, h2, h3⟩ := h
  refine ⟨n, e, h1, h2, fun q hq hp hs hl => ?_⟩
  by_cases c : q = i
  · subst c; exact (z hp hs hl).elim
  · exact h3 q (by omega) hp hs hl
theorem mg_no {L : Nat → Nat → Bool} {s p i : Nat} {x : Int32} {T : Nat → Int32} (hS : s < 1024) (h : mg_iv L s p i x) (ht : mg_tb L T (mc_cl (mc_cl s p) i)) (c : T (mc_cl (mc_cl s p) i) + 1 ≤ x) : mg_iv L s p (i + 1) x := by
  obtain ⟨n, e, h1, h2, h3⟩ := h
  obtain ⟨k, f, k1, k2⟩ := ht
  have b1 := mg_bnd n s h1
  have b2 := mg_bnd k _ k1
  have b3 := mc_le (mc_cl s p) i
  have b4 := mc_le s p
  rw [f, e, nI_1, nI_leI (by omega) (by omega)] at c
  refine ⟨n, e, h1, h2, fun q hq hp hs hl m hm => ?_⟩
  by_cases c : q = i
  · subst c
    have := k2 m hm
    omega
  · exact h3 q (by omega) hp hs hl m hm
theorem mg_ye {L : Nat → Nat → Bool} {s p i : Nat} {x : Int32} {T : Nat → Int32} (hS : s < 1024) (h : mg_iv L s p i x) (hp : s.testBit p = true) (hi : s.testBit i = true) (hne : i ≠ p) (hl : L p i = true)
    (ht : mg_tb L T (mc_cl (mc_cl s p) i)) (c : ¬ T (mc_cl (mc_cl s p) i) + 1 ≤ x) : mg_iv L s p (i + 1) (T (mc_cl (mc_cl s p) i) + 1) := by
  obtain ⟨n, e, h1, h2, h3⟩ := h
  obtain ⟨k, f, k1, k2⟩ := ht
  have b1 := mg_bnd n s h1
  have b2 := mg_bnd k _ k1
  have b3 := mc_le (mc_cl s p) i
  have b4 := mc_le s p
  rw [f, e, nI_1, nI_leI (by omega) (by omega)] at c
  refine ⟨k + 1, by rw [f, nI_1], ⟨p, i, fun e => hne e.symm, hp, hi, hl, k1⟩, fun m hm => ?_, fun q hq hp hs hl m hm => ?_⟩
  · have := h2 m hm
    omega
  · by_cases c : q = i
    · subst c
      have := k2 m hm
      omega
    · have := h3 q (by omega) hp hs hl m hm
      omega
theorem mg_en {L : Nat → Nat → Bool} (sy : ∀ a b, L a b = L b a) {s p e : Nat} {x : Int32} (h : mg_iv L s p e x) (he : ∀ q, s.testBit q = true → q ≠ p → q < e) : ∃ n, x = nI n ∧ mg_mx L s n := by
  obtain ⟨n, e, h1, h2, h3⟩ := h
  refine ⟨n, e, h1, fun m hm => ?_⟩
  rcases mg_rem sy m s p hm with h | ⟨k, q, rfl, hq, hs, hl, hk⟩
  · exact h2 m h
  · exact h3 q (he q hs hq) hq hs hl k hk
end
section
/-! what the two states hold of the lines L -/
def mr_nb (L : Nat → Nat → Bool) (nb : Nat → Int32) : Prop := ∀ p, p < 10 → ∀ q, q < 32 → bt (nb p) q = (decide (q < 10) && L p q)
def mr_ln (L : Nat → Nat → Bool) (ln : Nat → Int32) : Prop := ∀ p, p < 10 → ∀ q, q < 10 → ln (10 * p + q) = if L p q = true then 1 else 0
def mr_T (L : Nat → Nat → Bool) (T : Nat → Int32) (e : Nat) : Prop := ∀ t, t < e → mg_tb L T t
theorem mr_up {L : Nat → Nat → Bool} {T : Nat → Int32} {e : Nat} {r : Int32} (h : mr_T L T e) (hr : ∃ n, r = nI n ∧ mg_mx L e n) : mr_T L (upd T e r) (e + 1) := by
  intro t ht
  by_cases z : t = e
  · subst z
    obtain ⟨n, h1, h2⟩ := hr
    exact ⟨n, by rw [pk_us, h1], h2⟩
  · obtain ⟨n, h1, h2⟩ := h t (by omega)
    exact ⟨n, by rw [pk_un z, h1], h2⟩
theorem mb_pow : ∀ p, p < 10 → (1 : Int32) <<< (nI p &&& 31) = nI (2 ^ p) := by decide +kernel
theorem mb_p2 : ∀ p, p < 10 → 2 ^ p ≤ 512 := by decide +kernel
theorem ms_tb {top rest : Nat} (h : rest < 2 ^ top) (i : Nat) : (2 ^ top + rest).testBit i = (decide (i = top) || rest.testBit i) := by
  have e := Nat.two_pow_add_eq_or_of_lt h 1
  rw [Nat.mul_one] at e
  rw [e, Nat.testBit_or, Nat.testBit_two_pow]
  by_cases z : i = top
  · subst z; simp
  · have z' : ¬ top = i := fun e => z e.symm
    simp [z, z']
theorem ms_lt {top rest q : Nat} (h : rest < 2 ^ top) (hq : rest.testBit q = true) : q < top := by
  apply Classical.byContradiction
  intro z
  have a : rest.testBit q = false := Nat.testBit_lt_two_pow (Nat.lt_of_lt_of_le h (Nat.pow_le_pow_right (by decide) (by omega)))
  rw [a] at hq
  exact absurd hq (by decide)
theorem ms_cl {top rest : Nat} (h : rest < 2 ^ top) : mc_cl (2 ^ top + rest) top = rest := by
  apply Nat.eq_of_testBit_eq
  intro i
  rw [mc_tb, ms_tb h]
  by_cases z : i = top
  · subst z
    have a : rest.testBit i = false := Nat.testBit_lt_two_pow h
    simp [a]
  · simp [z]
theorem ms_or {top rest : Nat} (ht : top < 10) (h : rest < 2 ^ top) : ((1 : Int32) <<< (nI top &&& 31)) ||| nI rest = nI (2 ^ top + rest) := by
  apply b_ext
  intro i hi
  rw [b_or, mb_one top (by omega) i hi, mb_nI _ hi, mb_nI _ hi, ms_tb h]
theorem wx_ct {post : Int32 → Prop} {x : Int32} {p : Nat} (hp : p < 32) (h1 : bt x p = true → post 1) (h0 : bt x p = false → post 0) : wpX_contains post x (nI p) := by
  unfold wpX_contains
  refine br_c (fun c => h1 ((mb_has x hp).1 c)) (fun c => h0 ?_)
  cases e : bt x p
  · rfl
  · exact absurd ((mb_has x hp).2 e) c
theorem wx_mt {L : Nat → Nat → Bool} (sy : ∀ a b, L a b = L b a) {nb lg : Nat → Int32} (hn : mr_nb L nb) {top rest : Nat} (ht : top < 10) (hr : rest < 2 ^ top) (hT : mr_T L lg (2 ^ top + rest))
    {post : Int32 → Prop} (h : ∀ r, (∃ n, r = nI n ∧ mg_mx L (2 ^ top + rest) n) → post r) : wpX_mostWithTop post (nb, lg) (nI top) (nI rest) := by
  have h2 := mb_p2 top ht
  have hb : ∀ q, (2 ^ top + rest).testBit q = true → q ≠ top → q < top := by
    intro q hq hne
    rw [ms_tb hr, decide_eq_false hne, Bool.false_or] at hq
    exact ms_lt hr hq
  have hp : (2 ^ top + rest).testBit top = true := by rw [ms_tb hr]; simp
  have hpos : 0 < 2 ^ top := Nat.pow_pos (by decide)
  refine ⟨vp_in_nI (by omega) (by omega), ?_⟩
  intro x3 e3
  refine ⟨vp_in_nI ht (by omega), ?_⟩
  intro x4 e4
  rw [nI_clamp (by omega)] at e3 e4
  refine loop_0 (fun n i (x : Int32) => wX_mostWithTop_20 post (nI top) (nI rest) x4 nb lg n x (nI i)) (fun i x => mg_iv L (2 ^ top + rest) top i x) top x3 ?_ ?_ ?_
  · have a := mg_i0 (L := L) (s := 2 ^ top + rest) (p := top) (T := lg) (by rw [ms_cl hr]; exact hT rest (by omega))
    rw [ms_cl hr] at a
    rw [e3]; exact a
  · intro n x hI
    exact br_t (nI_le (Nat.le_refl _) (by omega)) (h x (mg_en sy hI hb))
  · intro n i x hi hI ih
    have hbt : bt x4 i = (L top i && rest.testBit i) := by
      rw [e4, b_and, hn top ht i (by omega), mb_nI _ (by omega), decide_eq_true (by omega), Bool.true_and]
    have hsi : (2 ^ top + rest).testBit i = rest.testBit i := by rw [ms_tb hr, decide_eq_false (by omega), Bool.false_or]
    refine br_f (nI_ge hi (by omega)) ?_
    refine wx_ct (by omega) (fun hc => ?_) (fun hc => ?_)
    · rw [hbt, Bool.and_eq_true] at hc
      have hlt := mc_le rest i
      have hTi : mg_tb L lg (mc_cl (mc_cl (2 ^ top + rest) top) i) := by rw [ms_cl hr]; exact hT _ (by omega)
      refine br_f (by decide) ?_
      rw [mc_int rest (by omega)]
      refine ⟨vp_in_nI (by omega) (by omega), ?_⟩
      rw [nI_clamp (by omega)]
      intro y ey
      have ey' : y = lg (mc_cl (mc_cl (2 ^ top + rest) top) i) + 1 := by rw [ey, ms_cl hr, Int32.add_comm]
      rw [ey']
      refine br_c (fun c z ez => ?_) (fun c z ez => ?_)
      · rw [ez, nI_1]; exact ih _ (mg_no (by omega) hI hTi c)
      · rw [ez, nI_1]; exact ih _ (mg_ye (by omega) hI hp (hsi.trans hc.2) (by omega) hc.1 hTi c)
    · refine br_t rfl ?_
      intro z ez
      rw [ez, nI_1]
      refine ih _ (mg_sk hI (fun _ hs hl => ?_))
      rw [hsi] at hs
      rw [hbt, hs, hl] at hc
      exact absurd hc (by decide)
theorem wx_f10 {L : Nat → Nat → Bool} (sy : ∀ a b, L a b = L b a) {nb lg : Nat → Int32} (hn : mr_nb L nb) {top : Nat} (ht : top < 10) (hT : mr_T L lg (2 ^ top))
    {post : SX → Prop} {J2 : Int32 → (Nat → Int32) → (Nat → Int32) → Prop} (h : ∀ lg', mr_T L lg' (2 ^ (top + 1)) → J2 (nI (top + 1)) nb lg') : ∃ n, wX_fillLargest_10 post J2 (nI top) n 0 nb lg := by
  have h2 := mb_p2 top ht
  refine loop_0 (fun n i (a : Nat → Int32) => wX_fillLargest_10 post J2 (nI top) n (nI i) nb a) (fun i a => mr_T L a (2 ^ top + i)) (2 ^ top) lg hT ?_ ?_
  · intro n a hI
    refine br_t (by rw [mb_pow top ht]; exact nI_le (Nat.le_refl _) (by omega)) ?_
    intro x ex
    rw [ex, nI_1]
    refine h a ?_
    rw [show 2 ^ (top + 1) = 2 ^ top + 2 ^ top by rw [Nat.pow_succ]; omega]
    exact hI
  · intro n i a hi hI ih
    refine br_f (by rw [mb_pow top ht]; exact nI_ge hi (by omega)) ?_
    refine wx_mt sy hn ht hi hI ?_
    intro r hr
    rw [ms_or ht hi]
    refine ⟨vp_in_nI (by omega) (by omega), ?_⟩
    rw [nI_clamp (by omega)]
    intro b eb x ex
    rw [ex, nI_1, eb]
    exact ih _ (mr_up hI hr)
theorem wx_fill {L : Nat → Nat → Bool} (sy : ∀ a b, L a b = L b a) {nb lg : Nat → Int32} (hn : mr_nb L nb) (h0 : lg 0 = 0)
    {post : SX → Prop} (h : ∀ lg', mr_T L lg' 1024 → post (nb, lg')) : wpX_fillLargest post (nb, lg) := by
  refine loop_0 (fun n i (a : Nat → Int32) => wX_fillLargest_2 post n (nI i) nb a) (fun i a => mr_T L a (2 ^ i)) 10 lg ?_ ?_ ?_
  · intro t ht
    obtain rfl : t = 0 := by omega
    exact mg_t0 h0
  · intro n a hI
    exact br_t (nI_le (b := 10) (Nat.le_refl _) (by decide)) (h a hI)
  · intro n i a hi hI ih
    refine br_f (nI_ge (b := 10) hi (by decide)) ?_
    exact wx_f10 sy hn hi hI ih
end
section
theorem mk_ix (p q : Nat) : (10 * nI p) + nI q = nI (10 * p + q) := by
  show nI 10 * nI p + nI q = _
  rw [pk_mul, nI_add]
theorem mk_b {L : Nat → Nat → Bool} {ln : Nat → Int32} (hl : mr_ln L ln) {p q : Nat} (hp : p < 10) (hq : q < 10) : ln (10 * p + q) = 0 ↔ L p q = false := by
  rw [hl p hp q hq]
  cases L p q <;> decide
theorem ms_10 {s : Nat} (h : s < 1024) {q : Nat} (hq : s.testBit q = true) : q < 10 := ms_lt (top := 10) h hq
theorem wy_22 {L : Nat → Nat → Bool} (sy : ∀ a b, L a b = L b a) {ln bs : Nat → Int32} (hl : mr_ln L ln) {s p : Nat} (hs : s < 1024) (hp : p < 10) (hsp : s.testBit p = true) (hT : mr_T L bs s)
    {post : Int32 → Prop} (h : ∀ r, (∃ n, r = nI n ∧ mg_mx L s n) → post r) : wY_pair_22 post (nI s) (nI p) ln bs := by
  have hlt := mc_lt hsp
  unfold wY_pair_22
  rw [mc_int s (by omega)]
  intro x3 e3
  rw [e3]
  refine ⟨vp_in_nI (by omega) (by omega), ?_⟩
  rw [nI_clamp (by omega)]
  intro x4 e4
  refine loop_0 (fun n i (x : Int32) => wY_pair_41 post (nI p) (nI (mc_cl s p)) ln bs n x (nI i)) (fun i x => mg_iv L s p i x) 10 x4 ?_ ?_ ?_
  · rw [e4]; exact mg_i0 (hT _ hlt)
  · intro n x hI
    exact br_t (nI_le (b := 10) (Nat.le_refl _) (by decide)) (h x (mg_en sy hI (fun q hq _ => ms_10 hs hq)))
  · intro n i x hi hI ih
    refine br_f (nI_ge (b := 10) hi (by decide)) ?_
    refine br_c (fun c => ?_) (fun c => ?_)
    · rw [mb_has _ (by omega), mb_nI _ (by omega)] at c
      obtain ⟨c1, c2⟩ := mc_t c
      rw [mk_ix]
      refine ⟨vp_in_nI (by omega) (by omega), ?_⟩
      rw [nI_clamp (by omega)]
      refine br_c (fun d => ?_) (fun d => ?_)
      · intro z ez
        rw [ez, nI_1]
        rw [mk_b hl hp hi] at d
        exact ih _ (mg_sk hI (fun _ _ e => by rw [d] at e; exact absurd e (by decide)))
      · rw [mk_b hl hp hi, Bool.not_eq_false] at d
        have hlt2 := mc_le (mc_cl s p) i
        rw [mc_int _ (by omega)]
        refine ⟨vp_in_nI (by omega) (by omega), ?_⟩
        rw [nI_clamp (by omega)]
        refine br_c (fun f => ?_) (fun f => ?_)
        · intro z ez
          rw [ez, nI_1]
          exact ih _ (mg_no hs hI (hT _ (by omega)) f)
        · refine ⟨vp_in_nI (by omega) (by omega), ?_⟩
          intro y ey z ez
          rw [ez, nI_1, ey]
          exact ih _ (mg_ye hs hI hsp c1 c2 d (hT _ (by omega)) f)
    · intro z ez
      rw [ez, nI_1]
      rw [mb_has _ (by omega), mb_nI _ (by omega)] at c
      exact ih _ (mg_sk hI (fun a b _ => c (mc_i b a)))
theorem wy_pair {L : Nat → Nat → Bool} (sy : ∀ a b, L a b = L b a) {ln bs : Nat → Int32} (hl : mr_ln L ln) {s : Nat} (hs : s < 1024) (h0 : 0 < s) (hT : mr_T L bs s)
    {post : Int32 → Prop} (h : ∀ r, (∃ n, r = nI n ∧ mg_mx L s n) → post r) : wpY_pair post (ln, bs) (nI s) := by
  refine loop_0 (fun n i (_ : Unit) => wY_pair_2 post (nI s) ln bs n (nI i)) (fun i _ => ∀ j, j < i → s.testBit j = false) 10 () ?_ ?_ ?_
  · intro j hj; exact absurd hj (by omega)
  · intro n _ hI
    exfalso
    have e : s = 0 := by
      apply Nat.eq_of_testBit_eq
      intro i
      rw [Nat.zero_testBit]
      cases e : s.testBit i
      · rfl
      · rw [← e]; exact hI i (ms_10 hs e)
    omega
  · intro n i _ hi hI ih
    refine br_f (nI_ge (b := 10) hi (by decide)) ?_
    refine br_c (fun c => ?_) (fun c => ?_)
    · rw [mb_has0 _ (by omega), mb_nI _ (by omega)] at c
      intro z ez
      rw [ez, nI_1]
      exact ih () (lt_s hI c)
    · rw [mb_has0 _ (by omega), mb_nI _ (by omega), Bool.not_eq_false] at c
      exact wy_22 sy hl hs hi c hT h
theorem wy_work {L : Nat → Nat → Bool} (sy : ∀ a b, L a b = L b a) {ln bs : Nat → Int32} (hl : mr_ln L ln) (h0 : bs 0 = 0)
    {post : SY → Prop} (h : ∀ bs', mr_T L bs' 1024 → post (ln, bs')) : wpY_work post (ln, bs) := by
  refine pk_loop (fun n i (a : Nat → Int32) => wY_work_2 post n (nI i) ln a) (fun i a => 0 < i ∧ mr_T L a i) 1024 1 bs (by decide) ?_ ?_ ?_
  · refine ⟨by decide, fun t ht => ?_⟩
    obtain rfl : t = 0 := by omega
    exact mg_t0 h0
  · intro n a hI
    exact br_t (nI_le (b := 1024) (Nat.le_refl _) (by decide)) (h a hI.2)
  · intro n i a hi hI ih
    refine br_f (nI_ge (b := 1024) hi (by decide)) ?_
    refine wy_pair sy hl hi hI.1 hI.2 ?_
    intro r hr
    refine ⟨vp_in_nI (by omega) (by omega), ?_⟩
    rw [nI_clamp (by omega)]
    intro b eb x ex
    rw [ex, nI_1, eb]
    exact ih _ ⟨by omega, mr_up hI.2 hr⟩
end
section
/-! the lines with the one between a and b set -/
def ml_set (L : Nat → Nat → Bool) (a b : Nat) (on : Bool) : Nat → Nat → Bool := fun x y => if (x = a ∧ y = b) ∨ (x = b ∧ y = a) then on else L x y
theorem ml_y {L : Nat → Nat → Bool} {a b x y : Nat} {on : Bool} (h : (x = a ∧ y = b) ∨ (x = b ∧ y = a)) : ml_set L a b on x y = on := if_pos h
theorem ml_n {L : Nat → Nat → Bool} {a b x y : Nat} {on : Bool} (h : ¬ ((x = a ∧ y = b) ∨ (x = b ∧ y = a))) : ml_set L a b on x y = L x y := if_neg h
theorem ml_sy {L : Nat → Nat → Bool} (sy : ∀ x y, L x y = L y x) (a b : Nat) (on : Bool) : ∀ x y, ml_set L a b on x y = ml_set L a b on y x := by
  intro x y
  by_cases h : (x = a ∧ y = b) ∨ (x = b ∧ y = a)
  · rw [ml_y h, ml_y (by omega)]
  · rw [ml_n h, ml_n (by omega)]; exact sy x y
theorem ml_ir {L : Nat → Nat → Bool} (ir : ∀ x, L x x = false) {a b : Nat} (h : a ≠ b) (on : Bool) : ∀ x, ml_set L a b on x x = false := by
  intro x
  rw [ml_n (by omega)]; exact ir x
theorem ml_id {L : Nat → Nat → Bool} (sy : ∀ x y, L x y = L y x) {a b : Nat} {on : Bool} (h : L a b = on) : ml_set L a b on = L := by
  funext x y
  by_cases z : (x = a ∧ y = b) ∨ (x = b ∧ y = a)
  · rw [ml_y z]
    rcases z with ⟨rfl, rfl⟩ | ⟨rfl, rfl⟩
    · exact h.symm
    · rw [sy]; exact h.symm
  · exact ml_n z
theorem ml_2 {L : Nat → Nat → Bool} {a b : Nat} {on on' : Bool} : ml_set (ml_set L a b on) a b on' = ml_set L a b on' := by
  funext x y
  by_cases z : (x = a ∧ y = b) ∨ (x = b ∧ y = a)
  · rw [ml_y z, ml_y z]
  · rw [ml_n z, ml_n z, ml_n z]
theorem ml_fl {L : Nat → Nat → Bool} (sy : ∀ x y, L x y = L y x) {nb : Nat → Int32} (hn : mr_nb L nb) {a b : Nat} (ha : a < 10) (hb : b < 10) (hab : a ≠ b) {on : Bool} (hon : L a b = !on) :
    mr_nb (ml_set L a b on) (upd (upd nb a (nb a ^^^ ((1 : Int32) <<< (nI b &&& 31)))) b (nb b ^^^ ((1 : Int32) <<< (nI a &&& 31)))) := by
  intro p hp q hq
  by_cases e1 : p = b
  · subst e1
    rw [pk_us, b_xor, hn p hp q hq, mb_one a (by omega) q hq]
    by_cases e2 : q = a
    · subst e2
      rw [ml_y (by omega), sy p q, hon]
      simp [ha]
    · rw [ml_n (by omega)]
      simp [e2]
  · rw [pk_un e1]
    by_cases e3 : p = a
    · subst e3
      rw [pk_us, b_xor, hn p hp q hq, mb_one b (by omega) q hq]
      by_cases e2 : q = b
      · subst e2
        rw [ml_y (by omega), hon]
        simp [hb]
      · rw [ml_n (by omega)]
        simp [e2]
    · rw [pk_un e3, hn p hp q hq, ml_n (by omega)]
theorem wx_fp {L : Nat → Nat → Bool} (sy : ∀ x y, L x y = L y x) {nb lg : Nat → Int32} (hn : mr_nb L nb) (h0 : lg 0 = 0) {a b : Nat} (ha : a < 10) (hb : b < 10) (hab : a ≠ b) {on : Bool} (hon : L a b = !on)
    {post : SX → Prop} (h : ∀ nb' lg', mr_nb (ml_set L a b on) nb' → mr_T (ml_set L a b on) lg' 1024 → post (nb', lg')) : wpX_flipLine post (nb, lg) (nI a) (nI b) := by
  unfold wpX_flipLine
  dsimp only
  refine ⟨vp_in_nI ha (by omega), vp_in_nI ha (by omega), ?_⟩
  intro n1 e1
  rw [nI_clamp (by omega)] at e1
  refine ⟨vp_in_nI hb (by omega), vp_in_nI hb (by omega), ?_⟩
  intro n2 e2
  rw [nI_clamp (by omega), e1, pk_un (fun e => hab e.symm)] at e2
  have hn2 : mr_nb (ml_set L a b on) n2 := by rw [e2]; exact ml_fl sy hn ha hb hab hon
  exact wx_fill (ml_sy sy a b on) hn2 h0 (fun lg' hT => h n2 lg' hn2 hT)
theorem wx_hl {L : Nat → Nat → Bool} {nb lg : Nat → Int32} (hn : mr_nb L nb) {a b : Nat} (ha : a < 10) (hb : b < 10)
    {post : Int32 → Prop} (h1 : L a b = true → post 1) (h0 : L a b = false → post 0) : wpX_hasLine post (nb, lg) (nI a) (nI b) := by
  refine ⟨vp_in_nI ha (by omega), ?_⟩
  rw [nI_clamp (by omega)]
  have e : bt (nb a) b = L a b := by rw [hn a ha b (by omega), decide_eq_true hb, Bool.true_and]
  exact wx_ct (by omega) (fun c => ⟨rfl, h1 (e ▸ c)⟩) (fun c => ⟨rfl, h0 (e ▸ c)⟩)
def mo_I (on : Bool) : Int32 := if on = true then 1 else 0
theorem mo_n (on : Bool) : vp_nar .boolean (mo_I on) = mo_I on := by cases on <;> rfl
theorem wy_set {L : Nat → Nat → Bool} {ln bs : Nat → Int32} (hl : mr_ln L ln) {a b : Nat} (ha : a < 10) (hb : b < 10) (hab : a ≠ b) (on : Bool)
    {post : Int32 → SY → Prop} (h : ∀ ln', mr_ln (ml_set L a b on) ln' → (L a b = on → post 0 (ln', bs)) ∧ (L a b = !on → post 1 (ln', bs))) : wpY_set post (ln, bs) (nI a) (nI b) (mo_I on) := by
  unfold wpY_set
  dsimp only
  rw [mk_ix, mk_ix, mo_n]
  refine ⟨vp_in_nI (by omega) (by omega), ?_⟩
  intro x ex
  refine ⟨vp_in_nI (by omega) (by omega), ?_⟩
  intro l1 e1
  refine ⟨vp_in_nI (by omega) (by omega), ?_⟩
  intro l2 e2
  rw [nI_clamp (by omega)] at ex e1 e2
  have hl2 : mr_ln (ml_set L a b on) l2 := by
    intro p hp q hq
    by_cases z : (p = a ∧ q = b) ∨ (p = b ∧ q = a)
    · rw [ml_y z, e2, e1]
      by_cases z1 : p = b ∧ q = a
      · rw [z1.1, z1.2, pk_us]; rfl
      · rw [pk_un (by omega)]
        have z2 : p = a ∧ q = b := by omega
        rw [z2.1, z2.2, pk_us]; rfl
    · rw [ml_n z, e2, e1, pk_un (by omega), pk_un (by omega)]
      exact hl p hp q hq
  obtain ⟨h1, h2⟩ := h l2 hl2
  rw [hl a ha b hb] at ex
  rw [ex]
  cases e : L a b <;> cases on
  · exact br_t rfl (h1 e)
  · exact br_f (by decide) (h2 e)
  · exact br_f (by decide) (h2 e)
  · exact br_t rfl (h1 e)
theorem mt_1 (v : Int32) : (∃ a, a < 10 ∧ v = nI a ∧ (∀ post : Int32 → Prop, post 1 → wpX_isPoint post v) ∧ (∀ post : Int32 → Prop, post 0 → wpY_bad post v)) ∨
    ((∀ post : Int32 → Prop, post 0 → wpX_isPoint post v) ∧ (∀ post : Int32 → Prop, post 1 → wpY_bad post v)) := by
  rcases pk_ix v (n := 10) (by decide) with h | h | ⟨a, ha, rfl⟩
  · exact Or.inr ⟨fun _ hp => br_t h hp, fun _ hp => br_t h hp⟩
  · have h0 : ¬ v < 0 := Int32.not_lt.mpr (Int32.le_trans (by decide) h)
    have h9 : ¬ v ≤ 9 := fun z => absurd (Int32.le_trans h z) (by decide)
    exact Or.inr ⟨fun _ hp => br_f h0 (br_t h hp), fun _ hp => br_f h0 (br_f h9 hp)⟩
  · have h0 : ¬ nI a < 0 := nI_pos (by omega)
    exact Or.inl ⟨a, ha, rfl, fun _ hp => br_f h0 (br_f (nI_ge (b := 10) ha (by decide)) hp), fun _ hp => br_f h0 (br_t (nI_le (b := 9) (by omega) (by decide)) hp)⟩
theorem mt_2 (v w : Int32) : (∃ a b, a < 10 ∧ b < 10 ∧ a ≠ b ∧ v = nI a ∧ w = nI b ∧ (∀ post : Int32 → Prop, post 1 → wpX_isTwoPoints post v w) ∧ (∀ post : Int32 → Prop, post 0 → wpY_refused post v w)) ∨
    ((∀ post : Int32 → Prop, post 0 → wpX_isTwoPoints post v w) ∧ (∀ post : Int32 → Prop, post 1 → wpY_refused post v w)) := by
  unfold wpX_isTwoPoints wpY_refused
  rcases mt_1 v with ⟨a, ha, rfl, hX, hY⟩ | ⟨hX, hY⟩
  · rcases mt_1 w with ⟨b, hb, rfl, gX, gY⟩ | ⟨gX, gY⟩
    · by_cases e : a = b
      · exact Or.inr ⟨fun _ hp => hX _ (br_f (by decide) (gX _ (br_f (by decide) (br_t (congrArg nI e) hp)))), fun _ hp => hY _ (br_t rfl (gY _ (br_t rfl (br_t (congrArg nI e) hp))))⟩
      · have e' : ¬ nI a = nI b := fun z => e ((nI_eq (by omega) (by omega)).1 z)
        exact Or.inl ⟨a, b, ha, hb, e, rfl, rfl, fun _ hp => hX _ (br_f (by decide) (gX _ (br_f (by decide) (br_f e' hp)))), fun _ hp => hY _ (br_t rfl (gY _ (br_t rfl (br_f e' hp))))⟩
    · exact Or.inr ⟨fun _ hp => hX _ (br_f (by decide) (gX _ (br_t rfl hp))), fun _ hp => hY _ (br_t rfl (gY _ (br_f (by decide) hp)))⟩
  · exact Or.inr ⟨fun _ hp => hX _ (br_t rfl hp), fun _ hp => hY _ (br_f (by decide) hp)⟩
/-! indices under the whole set -/
theorem mb_all : ∀ i, i < 10 → Nat.testBit 1023 i = true := by decide
theorem mc_all {p : Nat} (hp : p < 32) : (1023 : Int32) &&& (((1 : Int32) <<< (nI p &&& 31)) ^^^ (-1)) = nI (mc_cl 1023 p) := mc_int 1023 hp
theorem mb_1023 : ∀ i, i < 32 → bt 1023 i = decide (i < 10) := by decide +kernel
theorem mc_two {a b : Nat} (ha : a < 32) (hb : b < 32) : (1023 : Int32) &&& ((((1 : Int32) <<< (nI a &&& 31)) ||| ((1 : Int32) <<< (nI b &&& 31))) ^^^ (-1)) = nI (mc_cl (mc_cl 1023 a) b) := by
  rw [← mc_int _ hb, ← mc_all ha]
  apply b_ext
  intro i hi
  simp only [b_and, mb_not _ hi, b_or]
  cases bt 1023 i <;> cases bt ((1 : Int32) <<< (nI a &&& 31)) i <;> cases bt ((1 : Int32) <<< (nI b &&& 31)) i <;> rfl
theorem mc_set (x : Int32) : ∃ s, s < 1024 ∧ (1023 : Int32) &&& (x ^^^ (-1)) = nI s := by
  refine ⟨((1023 : Int32) &&& (x ^^^ (-1))).toBitVec.toNat, ?_, ?_⟩
  · rw [Int32.toBitVec_and, BitVec.toNat_and]
    exact Nat.lt_of_le_of_lt Nat.and_le_left (by decide)
  · generalize (1023 : Int32) &&& (x ^^^ (-1)) = y
    apply Int32.toBitVec_inj.mp
    show y.toBitVec = BitVec.ofNat 32 y.toBitVec.toNat
    rw [BitVec.ofNat_toNat, BitVec.setWidth_eq]
theorem wx_mp {nb lg : Nat → Int32} {a b : Nat} (ha : a < 32) (hb : b < 32) {post : Int32 → Prop} (h : post (lg (mc_cl (mc_cl 1023 a) b) + 1)) : wpX_mostWithPair post (nb, lg) (nI a) (nI b) := by
  unfold wpX_mostWithPair
  dsimp only
  have h1 := mc_le 1023 a
  have h2 := mc_le (mc_cl 1023 a) b
  rw [mc_all ha, mc_int _ hb, nI_clamp (by omega), Int32.add_comm]
  exact ⟨vp_in_nI (by omega) (by omega), h⟩
theorem wx_wp {L : Nat → Nat → Bool} (sy : ∀ x y, L x y = L y x) (ir : ∀ x, L x x = false) {nb lg : Nat → Int32} (hn : mr_nb L nb) (hT : mr_T L lg 1024) {a b : Nat} (ha : a < 10) (hb : b < 10) (hab : a ≠ b)
    {post : Int32 → Prop} (h : ∀ r, (∃ n, r = nI n ∧ mg_mx (ml_set L a b false) 1023 n) → post r) : wpX_mostWithoutPair post (nb, lg) (nI a) (nI b) := by
  have h1 := mc_le 1023 a
  have hT1 : ∀ t, t < 1024 → t.testBit a = false → mg_tb (ml_set L a b false) lg t := fun t ht hf =>
    mg_tl (a := a) (fun x y hx hy => (ml_n (by omega)).symm) hf (hT t ht)
  unfold wpX_mostWithoutPair
  dsimp only
  rw [mc_all (by omega)]
  refine ⟨vp_in_nI (by omega) (by omega), ?_⟩
  rw [nI_clamp (by omega)]
  intro x3 e3
  refine loop_0 (fun n i (x : Int32) => wX_mostWithoutPair_18 post (nI a) (nI b) nb lg n x (nI i)) (fun i x => mg_iv (ml_set L a b false) 1023 a i x) 10 x3 ?_ ?_ ?_
  · rw [e3]; exact mg_i0 (hT1 _ (by omega) (mc_f _ _))
  · intro n x hI
    exact br_t (nI_le (b := 10) (Nat.le_refl _) (by decide)) (h x (mg_en (ml_sy sy a b false) hI (fun q hq _ => ms_10 (by decide) hq)))
  · intro n i x hi hI ih
    refine br_f (nI_ge (b := 10) hi (by decide)) ?_
    refine br_c (fun c => ?_) (fun c => ?_)
    · rw [nI_eq (by omega) (by omega)] at c
      intro z ez
      rw [ez, nI_1]
      refine ih _ (mg_sk hI (fun _ _ e => ?_))
      rw [ml_y (by omega)] at e
      exact absurd e (by decide)
    · rw [nI_eq (by omega) (by omega)] at c
      have hL : ml_set L a b false a i = L a i := ml_n (by omega)
      refine wx_hl hn ha hi (fun d => ?_) (fun d => ?_)
      · refine br_f (by decide) ?_
        refine wx_mp (by omega) (by omega) ?_
        have hia : i ≠ a := fun e => by rw [e, ir a] at d; exact absurd d (by decide)
        have h2 := mc_le (mc_cl 1023 a) i
        have hTi : mg_tb (ml_set L a b false) lg (mc_cl (mc_cl 1023 a) i) := hT1 _ (by omega) (by rw [mc_tb, mc_f]; rfl)
        refine br_c (fun f z ez => ?_) (fun f z ez => ?_)
        · rw [ez, nI_1]; exact ih _ (mg_no (by decide) hI hTi f)
        · rw [ez, nI_1]; exact ih _ (mg_ye (by decide) hI (mb_all a ha) (mb_all i hi) hia (hL.trans d) hTi f)
      · refine br_t rfl ?_
        intro z ez
        rw [ez, nI_1]
        refine ih _ (mg_sk hI (fun _ _ e => ?_))
        rw [hL, d] at e
        exact absurd e (by decide)
theorem wy_most {L : Nat → Nat → Bool} (sy : ∀ a b, L a b = L b a) {ln bs : Nat → Int32} (hl : mr_ln L ln) (h0 : bs 0 = 0)
    {post : Int32 → SY → Prop} (h : ∀ bs', mr_T L bs' 1024 → post (bs' 1023) (ln, bs')) : wpY_most post (ln, bs) := by
  unfold wpY_most
  dsimp only
  exact wy_work sy hl h0 (fun bs' hT => h bs' hT)
end
section
/-! a set of points gathered one by one -/
def md_in (P : Nat → Prop) (i : Nat) (x : Int32) : Prop := ∀ j, j < 32 → (bt x j = true ↔ j < i ∧ P j)
theorem md_0 (P : Nat → Prop) : md_in P 0 0 := by
  intro j hj
  rw [b_0]
  exact ⟨fun h => absurd h (by decide), fun h => absurd h.1 (by omega)⟩
theorem md_n {P : Nat → Prop} {i : Nat} {x : Int32} (h : md_in P i x) (hp : ¬ P i) : md_in P (i + 1) x := by
  intro j hj
  rw [h j hj]
  refine ⟨fun z => ⟨by omega, z.2⟩, fun z => ⟨?_, z.2⟩⟩
  have : j ≠ i := fun e => hp (e ▸ z.2)
  omega
theorem md_y {P : Nat → Prop} {i : Nat} {x : Int32} (h : md_in P i x) (hi : i < 32) (hp : P i) : md_in P (i + 1) (x ||| ((1 : Int32) <<< (nI i &&& 31))) := by
  intro j hj
  rw [b_or, mb_one i hi j hj, Bool.or_eq_true, h j hj, decide_eq_true_iff]
  constructor
  · rintro (z | z)
    · exact ⟨by omega, z.2⟩
    · exact ⟨by omega, z ▸ hp⟩
  · rintro ⟨z1, z2⟩
    by_cases e : j = i
    · exact Or.inr e
    · exact Or.inl ⟨by omega, z2⟩
theorem md_u {P Q : Nat → Prop} {i : Nat} {x y : Int32} (h : md_in P i x) (g : md_in Q i y) (e : ∀ j, j < i → (P j ↔ Q j)) : x = y := by
  apply b_ext
  intro j hj
  apply Bool.eq_iff_iff.mpr
  rw [h j hj, g j hj]
  exact ⟨fun z => ⟨z.1, (e j z.1).1 z.2⟩, fun z => ⟨z.1, (e j z.1).2 z.2⟩⟩
def md_sp (T : Nat → Int32) (r : Int32) : Prop := md_in (fun j => T (mc_cl 1023 j) = T 1023) 10 r
def md_g (L : Nat → Nat → Bool) (r g : Int32) : Prop := md_in (fun j => bt r j = false ∧ ∃ a, a < 10 ∧ L j a = true ∧ bt r a = true) 10 g
theorem wx_is {nb lg : Nat → Int32} {a : Nat} (ha : a < 32) {post : Int32 → Prop} (h1 : lg (mc_cl 1023 a) = lg 1023 → post 1) (h0 : ¬ lg (mc_cl 1023 a) = lg 1023 → post 0) : wpX_isSpare post (nb, lg) (nI a) := by
  unfold wpX_isSpare
  dsimp only
  have h := mc_le 1023 a
  rw [mc_all ha, nI_clamp (by omega)]
  exact ⟨vp_in_nI (by omega) (by omega), br_c h1 h0⟩
theorem wx_sp {nb lg : Nat → Int32} {post : Int32 → Prop} (h : ∀ r, md_sp lg r → post r) : wpX_spareSet post (nb, lg) := by
  refine loop_0 (fun n i (x : Int32) => wX_spareSet_4 post nb lg n x (nI i)) (md_in (fun j => lg (mc_cl 1023 j) = lg 1023)) 10 0 (md_0 _) ?_ ?_
  · intro n x hI
    exact br_t (nI_le (b := 10) (Nat.le_refl _) (by decide)) (h x hI)
  · intro n i x hi hI ih
    refine br_f (nI_ge (b := 10) hi (by decide)) ?_
    refine wx_is (by omega) (fun c => ?_) (fun c => ?_)
    · refine br_f (by decide) ?_
      intro y ey z ez
      rw [ez, nI_1, ey]
      exact ih _ (md_y hI (by omega) c)
    · refine br_t rfl ?_
      intro z ez
      rw [ez, nI_1]
      exact ih _ (md_n hI c)
theorem wx_gd {L : Nat → Nat → Bool} {nb lg : Nat → Int32} (hn : mr_nb L nb) {post : Int32 → Prop} (h : ∀ r g, md_sp lg r → md_g L r g → post g) : wpX_guards post (nb, lg) := by
  unfold wpX_guards
  dsimp only
  refine wx_sp (fun r hr => ?_)
  refine loop_0 (fun n i (x : Int32) => wX_guards_9 post r nb lg n x (nI i)) (md_in (fun j => bt r j = false ∧ ∃ a, a < 10 ∧ L j a = true ∧ bt r a = true)) 10 0 (md_0 _) ?_ ?_
  · intro n x hI
    exact br_t (nI_le (b := 10) (Nat.le_refl _) (by decide)) (h r x hr hI)
  · intro n i x hi hI ih
    refine br_f (nI_ge (b := 10) hi (by decide)) ?_
    refine wx_ct (by omega) (fun c => ?_) (fun c => ?_)
    · refine br_f (by decide) ?_
      intro z ez
      rw [ez, nI_1]
      exact ih _ (md_n hI (fun e => by rw [c] at e; exact absurd e.1 (by decide)))
    · refine br_t rfl ⟨vp_in_nI hi (by omega), ?_⟩
      rw [nI_clamp (by omega)]
      have key : (¬ (nb i &&& r) = 0) ↔ ∃ a, a < 10 ∧ L i a = true ∧ bt r a = true := by
        rw [mb_ne0]
        constructor
        · rintro ⟨a, ha, e⟩
          rw [b_and, hn i hi a ha] at e
          simp only [Bool.and_eq_true, decide_eq_true_eq] at e
          exact ⟨a, e.1.1, e.1.2, e.2⟩
        · rintro ⟨a, ha, e1, e2⟩
          refine ⟨a, by omega, ?_⟩
          rw [b_and, hn i hi a (by omega), e1, e2, decide_eq_true ha]; rfl
      refine br_c (fun d => ?_) (fun d => ?_)
      · intro z ez
        rw [ez, nI_1]
        exact ih _ (md_n hI (fun e => key.2 e.2 d))
      · intro y ey z ez
        rw [ez, nI_1, ey]
        exact ih _ (md_y hI (by omega) ⟨c, key.1 d⟩)
theorem mk_d (i : Nat) (hi : i < 2 ^ 31) : nI i / 10 = nI (i / 10) := pk_div (d := 10) hi (by decide) (by decide)
theorem mk_r (i : Nat) (hi : i < 2 ^ 31) : nI i - nI i / 10 * 10 = nI (i % 10) := pk_rem (d := 10) hi (by decide) (by decide)
def md_nr (L : Nat → Nat → Bool) (r : Int32) (i : Nat) (x : Int32) : Prop := ∀ j, j < 32 → (bt x j = true ↔ j < 10 ∧ ∃ a, a < 10 ∧ 10 * a + j < i ∧ L a j = true ∧ bt r a = true)
theorem md_nn {L : Nat → Nat → Bool} {r x : Int32} {i : Nat} (h : md_nr L r i x) (z : ¬ (L (i / 10) (i % 10) = true ∧ bt r (i / 10) = true)) : md_nr L r (i + 1) x := by
  intro j hj
  rw [h j hj]
  constructor
  · rintro ⟨h1, a, h2, h3, h4⟩
    exact ⟨h1, a, h2, by omega, h4⟩
  · rintro ⟨h1, a, h2, h3, h4⟩
    refine ⟨h1, a, h2, ?_, h4⟩
    apply Classical.byContradiction
    intro w
    have e1 : i / 10 = a := by omega
    have e2 : i % 10 = j := by omega
    rw [e1, e2] at z
    exact z h4
theorem md_ny {L : Nat → Nat → Bool} {r x : Int32} {i : Nat} (hi : i < 100) (h : md_nr L r i x) (z : L (i / 10) (i % 10) = true) (z' : bt r (i / 10) = true) : md_nr L r (i + 1) (x ||| ((1 : Int32) <<< (nI (i % 10) &&& 31))) := by
  intro j hj
  rw [b_or, mb_one (i % 10) (by omega) j hj, Bool.or_eq_true, h j hj, decide_eq_true_iff]
  constructor
  · rintro (⟨h1, a, h2, h3, h4⟩ | e)
    · exact ⟨h1, a, h2, by omega, h4⟩
    · exact ⟨by omega, i / 10, by omega, by omega, e ▸ z, z'⟩
  · rintro ⟨h1, a, h2, h3, h4⟩
    by_cases w : 10 * a + j < i
    · exact Or.inl ⟨h1, a, h2, w, h4⟩
    · exact Or.inr (by omega)
theorem wy_g55 {L : Nat → Nat → Bool} (sy : ∀ a b, L a b = L b a) {ln bs : Nat → Int32} (hl : mr_ln L ln) {r : Int32} {post : Int32 → SY → Prop} (h : ∀ g, md_g L r g → post g (ln, bs)) : ∃ n, wY_guards_55 post r ln bs n 0 0 := by
  refine loop_0 (fun n i (x : Int32) => wY_guards_55 post r ln bs n x (nI i)) (md_nr L r) 100 0 ?_ ?_ ?_
  · intro j hj
    rw [b_0]
    exact ⟨fun h => absurd h (by decide), fun ⟨_, a, _, h, _⟩ => absurd h (by omega)⟩
  · intro n x hI
    refine br_t (nI_le (b := 100) (Nat.le_refl _) (by decide)) (h _ ?_)
    intro j hj
    rw [b_and, mb_not _ hj, Bool.and_eq_true, hI j hj]
    constructor
    · rintro ⟨⟨h1, a, h2, h3, h4, h5⟩, h6⟩
      exact ⟨h1, by simpa using h6, a, h2, (sy j a).trans h4, h5⟩
    · rintro ⟨h1, h6, a, h2, h4, h5⟩
      exact ⟨⟨h1, a, h2, by omega, (sy a j).trans h4, h5⟩, by simpa using h6⟩
  · intro n i x hi hI ih
    refine br_f (nI_ge (b := 100) hi (by decide)) ?_
    refine ⟨vp_in_nI hi (by omega), ?_⟩
    rw [nI_clamp (by omega)]
    have hL : ln i = 0 ↔ L (i / 10) (i % 10) = false := by
      have e : i = 10 * (i / 10) + i % 10 := by omega
      have := mk_b hl (p := i / 10) (q := i % 10) (by omega) (by omega)
      rw [← e] at this
      exact this
    refine br_c (fun c => ?_) (fun c => ?_)
    · rw [hL] at c
      intro z ez
      rw [ez, nI_1]
      exact ih _ (md_nn hI (fun e => by rw [c] at e; exact absurd e.1 (by decide)))
    · rw [hL, Bool.not_eq_false] at c
      refine ⟨by decide, ?_⟩
      refine br_c (fun d => ?_) (fun d => ?_)
      · rw [mk_d i (by omega), mb_has _ (by omega)] at d
        refine ⟨by decide, ?_⟩
        intro y ey z ez
        rw [ez, nI_1, ey, mk_r i (by omega)]
        exact ih _ (md_ny hi hI c d)
      · rw [mk_d i (by omega), mb_has _ (by omega)] at d
        intro z ez
        rw [ez, nI_1]
        exact ih _ (md_nn hI (fun e => d e.2))
theorem wy_gd {L : Nat → Nat → Bool} (sy : ∀ a b, L a b = L b a) {ln bs : Nat → Int32} (hl : mr_ln L ln) (h0 : bs 0 = 0) {post : Int32 → SY → Prop}
    (h : ∀ bs' r g, mr_T L bs' 1024 → md_sp bs' r → md_g L r g → post g (ln, bs')) : wpY_guards post (ln, bs) := by
  unfold wpY_guards
  dsimp only
  refine wy_work sy hl h0 (fun bs' hT => ?_)
  refine loop_0 (fun n i (x : Int32) => wY_guards_10 post 0 ln bs' n x (nI i)) (md_in (fun j => bs' (mc_cl 1023 j) = bs' 1023)) 10 0 (md_0 _) ?_ ?_
  · intro n x hI
    exact br_t (nI_le (b := 10) (Nat.le_refl _) (by decide)) (wy_g55 sy hl (fun g hg => h bs' x g hT hI hg))
  · intro n i x hi hI ih
    refine br_f (nI_ge (b := 10) hi (by decide)) ?_
    have hle := mc_le 1023 i
    rw [mc_all (by omega), nI_clamp (by omega)]
    refine ⟨vp_in_nI (by omega) (by omega), ?_⟩
    refine br_c (fun c => ?_) (fun c => ?_)
    · intro y ey z ez
      rw [ez, nI_1, ey]
      exact ih _ (md_y hI (by omega) c)
    · intro z ez
      rw [ez, nI_1]
      exact ih _ (md_n hI c)
theorem md_eq {L : Nat → Nat → Bool} {T U : Nat → Int32} (hT : mr_T L T 1024) (hU : mr_T L U 1024) {r r' g g' : Int32} (h1 : md_sp T r) (h2 : md_sp U r') (h3 : md_g L r g) (h4 : md_g L r' g') : g' = g := by
  have e : r' = r := by
    refine md_u h2 h1 (fun j hj => ?_)
    have hle := mc_le 1023 j
    rw [mg_un rfl (hU (mc_cl 1023 j) (by omega)) (hT _ (by omega)), mg_un rfl (hU 1023 (by omega)) (hT _ (by omega))]
  subst e
  exact md_u h4 h3 (fun j hj => Iff.rfl)
end
section
/-! reaching: the flat run of rounds and points -/
def mp_st (nb : Nat → Int32) (al x : Int32) (p : Nat) : Int32 := if bt x p = true then x ||| (nb p &&& al) else x
def mp_fl (nb : Nat → Int32) (al x0 : Int32) : Nat → Int32
  | 0 => x0
  | e + 1 => mp_st nb al (mp_fl nb al x0 e) (e % 10)
theorem mp_s (nb : Nat → Int32) (al x0 : Int32) (e : Nat) : mp_fl nb al x0 (e + 1) = mp_st nb al (mp_fl nb al x0 e) (e % 10) := rfl
theorem mp_mo {nb : Nat → Int32} {al x0 : Int32} {j : Nat} (h : bt x0 j = true) : ∀ e, bt (mp_fl nb al x0 e) j = true := by
  intro e
  induction e with
  | zero => exact h
  | succ e ih =>
    rw [mp_s]
    unfold mp_st
    by_cases c : bt (mp_fl nb al x0 e) (e % 10) = true
    · rw [if_pos c, b_or, ih]; rfl
    · rw [if_neg c]; exact ih
theorem wx_r17 {nb lg : Nat → Int32} {al x0 : Int32} {k : Nat} (hk : k < 10) {post : Int32 → Prop} {J7 : Int32 → Int32 → Prop} (h : J7 (mp_fl nb al x0 (10 * (k + 1))) (nI (k + 1))) :
    ∃ n, wX_reachedFrom_17 post J7 al (nI k) nb lg n (mp_fl nb al x0 (10 * k)) 0 := by
  refine loop_0 (fun n i (x : Int32) => wX_reachedFrom_17 post J7 al (nI k) nb lg n x (nI i)) (fun i x => x = mp_fl nb al x0 (10 * k + i)) 10 _ rfl ?_ ?_
  · intro n x hI
    refine br_t (nI_le (b := 10) (Nat.le_refl _) (by decide)) ?_
    intro z ez
    rw [ez, nI_1, hI]
    exact h
  · intro n i x hi hI ih
    refine br_f (nI_ge (b := 10) hi (by decide)) ?_
    have hm : (10 * k + i) % 10 = i := by omega
    have hs : mp_fl nb al x0 (10 * k + (i + 1)) = mp_st nb al x i := by
      rw [← Nat.add_assoc, mp_s, hm, ← hI]
    refine wx_ct (by omega) (fun c => ?_) (fun c => ?_)
    · refine br_f (by decide) ⟨vp_in_nI hi (by omega), ?_⟩
      rw [nI_clamp (by omega)]
      intro y ey z ez
      rw [ez, nI_1]
      refine ih _ ?_
      rw [hs, ey]
      exact (if_pos c).symm
    · refine br_t rfl ?_
      intro z ez
      rw [ez, nI_1]
      refine ih _ ?_
      rw [hs]
      exact (if_neg (by rw [c]; decide)).symm
theorem wx_rf {nb lg : Nat → Int32} {al : Int32} {a : Nat} {post : Int32 → Prop} (h : post (mp_fl nb al ((1 : Int32) <<< (nI a &&& 31)) 100)) : wpX_reachedFrom post (nb, lg) (nI a) al := by
  unfold wpX_reachedFrom
  dsimp only
  intro x ex
  refine loop_0 (fun n k (x : Int32) => wX_reachedFrom_7 post al nb lg n x (nI k)) (fun k x => x = mp_fl nb al ((1 : Int32) <<< (nI a &&& 31)) (10 * k)) 10 x ex ?_ ?_
  · intro n x hI
    exact br_t (nI_le (b := 10) (Nat.le_refl _) (by decide)) (by rw [hI]; exact h)
  · intro n i x hi hI ih
    refine br_f (nI_ge (b := 10) hi (by decide)) ?_
    rw [hI]
    exact wx_r17 hi (ih _ rfl)
def mp_iv (L : Nat → Nat → Bool) (nb : Nat → Int32) (al x0 : Int32) (i : Nat) (x : Int32) : Prop := ∀ j, j < 32 →
  bt x j = (bt (mp_fl nb al x0 (i / 10)) j || (bt (mp_fl nb al x0 (i / 10)) (i / 10 % 10) && (decide (j < i % 10) && (L (i / 10 % 10) j && bt al j))))
theorem mp_nx {L : Nat → Nat → Bool} {nb : Nat → Int32} (hn : mr_nb L nb) {al x0 x y : Int32} {i : Nat} (h : mp_iv L nb al x0 i x)
    (hy : ∀ j, j < 32 → bt y j = (bt x j || (decide (j = i % 10) && (L (i / 10 % 10) (i % 10) && (bt (mp_fl nb al x0 (i / 10)) (i / 10 % 10) && bt al (i % 10)))))) : mp_iv L nb al x0 (i + 1) y := by
  intro j hj
  rw [hy j hj, h j hj]
  by_cases b9 : i % 10 = 9
  · have e1 : (i + 1) / 10 = i / 10 + 1 := by omega
    have e2 : (i + 1) % 10 = 0 := by omega
    rw [e1, e2, mp_s, decide_eq_false (by omega : ¬ j < 0), Bool.false_and, Bool.and_false, Bool.or_false]
    unfold mp_st
    by_cases c : bt (mp_fl nb al x0 (i / 10)) (i / 10 % 10) = true
    · rw [if_pos c, b_or, b_and, hn _ (by omega) j hj, c, b9]
      rcases Nat.lt_trichotomy j 9 with z | z | z
      · rw [decide_eq_true z, decide_eq_false (by omega : ¬ j = 9), decide_eq_true (by omega : j < 10)]
        simp
      · subst z
        simp
      · rw [decide_eq_false (by omega : ¬ j < 9), decide_eq_false (by omega : ¬ j = 9), decide_eq_false (by omega : ¬ j < 10)]
        simp
    · rw [if_neg c]
      rw [Bool.not_eq_true] at c
      rw [c]
      simp
  · have e1 : (i + 1) / 10 = i / 10 := by omega
    have e2 : (i + 1) % 10 = i % 10 + 1 := by omega
    rw [e1, e2]
    by_cases z : j = i % 10
    · rw [← z, decide_eq_false (by omega : ¬ j < j), decide_eq_true (rfl : j = j), decide_eq_true (by omega : j < j + 1)]
      cases bt (mp_fl nb al x0 (i / 10)) j <;> cases bt (mp_fl nb al x0 (i / 10)) (i / 10 % 10) <;> cases L (i / 10 % 10) j <;> cases bt al j <;> rfl
    · have hd : decide (j < i % 10 + 1) = decide (j < i % 10) := decide_eq_decide.mpr (by omega)
      rw [decide_eq_false z, hd]
      simp
theorem wy_25 {L : Nat → Nat → Bool} (ir : ∀ a, L a a = false) {nb ln bs : Nat → Int32} (hn : mr_nb L nb) (hl : mr_ln L ln) {al x0 c : Int32} {post : Int32 → SY → Prop} {J13 : Int32 → Int32 → Prop}
    (h : J13 (al &&& (mp_fl nb al x0 100 ^^^ (-1))) (c + 1)) : ∃ n, wY_parts_25 post J13 al c ln bs n x0 0 := by
  refine loop_0 (fun n i (x : Int32) => wY_parts_25 post J13 al c ln bs n x (nI i)) (mp_iv L nb al x0) 1000 x0 ?_ ?_ ?_
  · intro j hj
    show bt x0 j = (bt x0 j || (bt x0 0 && (decide (j < 0) && (L 0 j && bt al j))))
    rw [decide_eq_false (by omega : ¬ j < 0)]
    simp
  · intro n x hI
    refine br_t (nI_le (b := 1000) (Nat.le_refl _) (by decide)) ?_
    have e : x = mp_fl nb al x0 100 := by
      apply b_ext
      intro j hj
      have := hI j hj
      rw [decide_eq_false (by omega : ¬ j < 1000 % 10)] at this
      simpa using this
    intro y ey z ez
    rw [ez, ey, e]
    exact h
  · intro n i x hi hI ih
    refine br_f (nI_ge (b := 1000) hi (by decide)) ?_
    refine ⟨by decide, by decide, ?_⟩
    intro x5 e5
    rw [mk_d i (by omega), mk_r _ (by omega)] at e5
    refine ⟨by decide, ?_⟩
    intro x6 e6
    rw [mk_r i (by omega)] at e6
    rw [e5, e6, mk_ix]
    refine ⟨vp_in_nI (by omega) (by omega), ?_⟩
    rw [nI_clamp (by omega), mk_b hl (by omega) (by omega), mb_has _ (by omega), mb_has _ (by omega)]
    have hxa : bt x (i / 10 % 10) = bt (mp_fl nb al x0 (i / 10)) (i / 10 % 10) := by
      rw [hI _ (by omega), ir]
      simp
    refine br_c (fun d => ?_) (fun d => ?_)
    · intro z ez
      rw [ez, nI_1]
      exact ih _ (mp_nx hn hI (fun j hj => by rw [d]; simp))
    · rw [Bool.not_eq_false] at d
      refine br_c (fun f => ?_) (fun f => ?_)
      · rw [hxa] at f
        refine br_c (fun g => ?_) (fun g => ?_)
        · intro y ey z ez
          rw [ez, nI_1, ey]
          exact ih _ (mp_nx hn hI (fun j hj => by rw [b_or, mb_one _ (by omega) j hj, d, f, g]; simp))
        · rw [Bool.not_eq_true] at g
          intro z ez
          rw [ez, nI_1]
          exact ih _ (mp_nx hn hI (fun j hj => by rw [g]; simp))
      · rw [hxa, Bool.not_eq_true] at f
        intro z ez
        rw [ez, nI_1]
        exact ih _ (mp_nx hn hI (fun j hj => by rw [f]; simp))
theorem mp_low {u : Int32} {p : Nat} (hp : p < 32) (h : bt u p = true) (hl : ∀ j, j < p → bt u j = false) : u &&& (-u) = (1 : Int32) <<< (nI p &&& 31) := by
  apply b_ext
  intro i hi
  have hneg : bt (-u) i = (bt u i ^^ decide (i < 32 ∧ ∃ j, j < i ∧ bt u j = true)) := by
    unfold bt
    rw [Int32.toBitVec_neg, BitVec.getLsbD_neg]
    simp [hi]
  rw [b_and, mb_one p hp i hi, hneg]
  rcases Nat.lt_trichotomy i p with z | z | z
  · rw [hl i z, decide_eq_false (by omega : ¬ i = p)]; rfl
  · subst z
    rw [h, decide_eq_true (rfl : i = i), decide_eq_false]
    · rfl
    · rintro ⟨_, j, hj, e⟩
      rw [hl j hj] at e
      exact absurd e (by decide)
  · rw [decide_eq_false (by omega : ¬ i = p), decide_eq_true (⟨hi, p, z, h⟩ : i < 32 ∧ ∃ j, j < i ∧ bt u j = true)]
    cases bt u i <;> rfl
theorem mp_go {L : Nat → Nat → Bool} (ir : ∀ a, L a a = false) {nb lg ln : Nat → Int32} (hn : mr_nb L nb) (hl : mr_ln L ln) : ∀ (d p : Nat) (u c : Int32), p + d = 10 → (∀ j, j < 32 → bt u j = true → p ≤ j ∧ j < 10) →
    ∃ r, (∀ post : Int32 → Prop, post r → wX_parts_15 post nb lg (d + 1) u c (nI p)) ∧ (∀ (bs : Nat → Int32) (post : Int32 → SY → Prop), post r (ln, bs) → ∃ n, wY_parts_13 post ln bs n u c) := by
  intro d
  induction d with
  | zero =>
    intro p u c hp hu
    have e : u = 0 := by
      apply Classical.byContradiction
      intro z
      obtain ⟨i, hi, h⟩ := (mb_ne0 u).1 z
      have := hu i hi h
      omega
    exact ⟨c, fun post hr => br_t (nI_le (a := 10) (by omega) (by omega)) hr, fun bs post hr => ⟨1, br_t e hr⟩⟩
  | succ d ih =>
    intro p u c hp hu
    cases e : bt u p
    · obtain ⟨r, hX, hY⟩ := ih (p + 1) u c (by omega) (fun j hj h => by
        have h1 := hu j hj h
        have h2 : j ≠ p := fun z => by rw [z, e] at h; exact absurd h (by decide)
        omega)
      refine ⟨r, fun post hr => br_f (nI_ge (b := 10) (by omega) (by decide)) ?_, hY⟩
      refine wx_ct (by omega) (fun z => by rw [e] at z; exact absurd z (by decide)) (fun _ => br_t rfl ?_)
      intro z ez
      rw [ez, nI_1]
      exact hX post hr
    · obtain ⟨r, hX, hY⟩ := ih (p + 1) (u &&& (mp_fl nb u ((1 : Int32) <<< (nI p &&& 31)) 100 ^^^ (-1))) (c + 1) (by omega) (fun j hj h => by
        rw [b_and, mb_not _ hj, Bool.and_eq_true] at h
        have h1 := hu j hj h.1
        have h2 : j ≠ p := fun z => by
          have h3 := h.2
          rw [z, mp_mo (by rw [mb_one p (by omega) p (by omega)]; exact decide_eq_true rfl) 100] at h3
          exact absurd h3 (by decide)
        omega)
      refine ⟨r, fun post hr => br_f (nI_ge (b := 10) (by omega) (by decide)) ?_, fun bs post hr => ?_⟩
      · refine wx_ct (by omega) (fun _ => br_f (by decide) ?_) (fun z => by rw [e] at z; exact absurd z (by decide))
        refine wx_rf ?_
        intro x ex y ey z ez
        rw [ez, nI_1, ex, ey]
        exact hX post hr
      · obtain ⟨n, hn'⟩ := hY bs post hr
        refine ⟨n + 1, br_f ((mb_ne0 u).2 ⟨p, by omega, e⟩) ?_⟩
        intro x ex
        rw [ex, mp_low (p := p) (by omega) e (fun j hj => by
          cases f : bt u j
          · rfl
          · have := (hu j (by omega) f).1
            omega)]
        exact wy_25 ir hn hl hn'
end
section
def i_Rel (k : Nat) (u : SX) (v : SY) : Prop := ∃ L : Nat → Nat → Bool, (∀ a b, L a b = L b a) ∧ (∀ a, L a a = false) ∧ mr_nb L u.1 ∧ mr_ln L v.1 ∧ v.2 0 = 0 ∧ mr_T L u.2 1024
theorem i_up {k : Nat} {u : SX} {v : SY} (h : i_Rel k u v) : i_Rel (k + 3) u v := h
theorem i_vc0 : wpX_init (fun u => wpY_init (fun v => i_Rel 0 u v)) := by
  refine ⟨fun _ _ => false, fun _ _ => rfl, fun _ => rfl, ?_, ?_, rfl, ?_⟩
  · intro p hp q hq
    show bt 0 q = _
    rw [b_0, Bool.and_false]
  · intro p hp q hq
    rfl
  · intro t ht
    refine ⟨0, rfl, trivial, fun m hm => ?_⟩
    cases m with
    | zero => exact Nat.le_refl _
    | succ m =>
      obtain ⟨a, b, _, _, _, h, _⟩ := hm
      exact absurd h Bool.false_ne_true
theorem i_vc_join {k : Nat} {u : SX} {v : SY} (I : i_Rel k u v) (hk : k + 3 ≤ 1536) (v1 : Int32) (v2 : Int32) : wpX_join (fun r u' => wpY_join (fun r' v' => r' = r ∧ i_Rel (k + 3) u' v') v v1 v2) u v1 v2 := by
  obtain ⟨nb, lg⟩ := u
  obtain ⟨ln, bs⟩ := v
  obtain ⟨L, sy, ir, hn, hl, h0, hT⟩ := I
  dsimp only at hn hl h0 hT
  unfold wpX_join wpY_join
  dsimp only
  rcases mt_2 v1 v2 with ⟨a, b, ha, hb, hab, rfl, rfl, hX, hY⟩ | ⟨hX, hY⟩
  · refine hX _ (br_f (by decide) (wx_hl hn ha hb (fun c => br_f (by decide) ?_) (fun c => br_t rfl ?_)))
    · refine hY _ (br_t rfl (wy_set hl ha hb hab true (fun ln' hl' => ⟨fun _ => ?_, fun d => ?_⟩)))
      · rw [ml_id sy c] at hl'
        exact ⟨rfl, L, sy, ir, hn, hl', h0, hT⟩
      · rw [c] at d; exact absurd d (by decide)
    · refine wx_fp sy hn (mg_0t (hT 0 (by omega))) ha hb hab (on := true) c (fun nb' lg' hn' hT' => ?_)
      refine hY _ (br_t rfl (wy_set hl ha hb hab true (fun ln' hl' => ⟨fun d => ?_, fun _ => ?_⟩)))
      · rw [c] at d; exact absurd d (by decide)
      · exact ⟨rfl, ml_set L a b true, ml_sy sy a b true, ml_ir ir hab true, hn', hl', h0, hT'⟩
  · exact hX _ (br_t rfl (hY _ (br_f (by decide) ⟨rfl, L, sy, ir, hn, hl, h0, hT⟩)))
theorem i_vc_part {k : Nat} {u : SX} {v : SY} (I : i_Rel k u v) (hk : k + 3 ≤ 1536) (v1 : Int32) (v2 : Int32) : wpX_part (fun r u' => wpY_part (fun r' v' => r' = r ∧ i_Rel (k + 3) u' v') v v1 v2) u v1 v2 := by
  obtain ⟨nb, lg⟩ := u
  obtain ⟨ln, bs⟩ := v
  obtain ⟨L, sy, ir, hn, hl, h0, hT⟩ := I
  dsimp only at hn hl h0 hT
  unfold wpX_part wpY_part
  dsimp only
  rcases mt_2 v1 v2 with ⟨a, b, ha, hb, hab, rfl, rfl, hX, hY⟩ | ⟨hX, hY⟩
  · refine hX _ (br_f (by decide) (wx_hl hn ha hb (fun c => br_f (by decide) ?_) (fun c => br_t rfl ?_)))
    · refine wx_fp sy hn (mg_0t (hT 0 (by omega))) ha hb hab (on := false) c (fun nb' lg' hn' hT' => ?_)
      refine hY _ (br_t rfl (wy_set hl ha hb hab false (fun ln' hl' => ⟨fun d => ?_, fun _ => ?_⟩)))
      · rw [c] at d; exact absurd d (by decide)
      · exact ⟨rfl, ml_set L a b false, ml_sy sy a b false, ml_ir ir hab false, hn', hl', h0, hT'⟩
    · refine hY _ (br_t rfl (wy_set hl ha hb hab false (fun ln' hl' => ⟨fun _ => ?_, fun d => ?_⟩)))
      · rw [ml_id sy c] at hl'
        exact ⟨rfl, L, sy, ir, hn, hl', h0, hT⟩
      · rw [c] at d; exact absurd d (by decide)
  · exact hX _ (br_t rfl (hY _ (br_f (by decide) ⟨rfl, L, sy, ir, hn, hl, h0, hT⟩)))
theorem i_vc_most {k : Nat} {u : SX} {v : SY} (I : i_Rel k u v) (hk : k + 3 ≤ 1536) : wpX_most (fun r => wpY_most (fun r' v' => r' = r ∧ i_Rel (k + 3) u v') v) u := by
  obtain ⟨nb, lg⟩ := u
  obtain ⟨ln, bs⟩ := v
  obtain ⟨L, sy, ir, hn, hl, h0, hT⟩ := I
  dsimp only at hn hl h0 hT
  unfold wpX_most
  dsimp only
  refine wy_most sy hl h0 (fun bs' hT' => ?_)
  exact ⟨mg_un rfl (hT' 1023 (by omega)) (hT _ (by omega)), L, sy, ir, hn, hl, mg_0t (hT' 0 (by omega)), hT⟩
theorem i_vc_spare {k : Nat} {u : SX} {v : SY} (I : i_Rel k u v) (hk : k + 3 ≤ 1536) (v1 : Int32) : wpX_spare (fun r => wpY_spare (fun r' v' => r' = r ∧ i_Rel (k + 3) u v') v v1) u v1 := by
  obtain ⟨nb, lg⟩ := u
  obtain ⟨ln, bs⟩ := v
  obtain ⟨L, sy, ir, hn, hl, h0, hT⟩ := I
  dsimp only at hn hl h0 hT
  unfold wpX_spare wpY_spare
  dsimp only
  rcases mt_1 v1 with ⟨a, ha, rfl, hX, hY⟩ | ⟨hX, hY⟩
  · have hle := mc_le 1023 a
    have hy : ∀ (r : Int32), ((lg (mc_cl 1023 a) = lg 1023 → r = 1) ∧ (¬ lg (mc_cl 1023 a) = lg 1023 → r = 0)) → wpY_spare (fun r' v' => r' = r ∧ i_Rel (k + 3) (nb, lg) v') (ln, bs) (nI a) := by
      intro r hr
      unfold wpY_spare
      dsimp only
      refine hY _ (br_t rfl (wy_work sy hl h0 (fun bs' hT' => ?_)))
      dsimp only
      rw [mc_all (by omega), nI_clamp (by omega), mg_un rfl (hT' (mc_cl 1023 a) (by omega)) (hT _ (by omega)), mg_un rfl (hT' 1023 (by omega)) (hT _ (by omega))]
      have hR : i_Rel (k + 3) (nb, lg) (ln, bs') := ⟨L, sy, ir, hn, hl, mg_0t (hT' 0 (by omega)), hT⟩
      exact ⟨vp_in_nI (by omega) (by omega), br_c (fun c => ⟨(hr.1 c).symm, hR⟩) (fun c => ⟨(hr.2 c).symm, hR⟩)⟩
    unfold wpY_spare at hy
    dsimp only at hy
    refine hX _ (br_f (by decide) (wx_is (by omega) (fun c => br_f (by decide) (hy 1 ?_)) (fun c => br_t rfl (hy 0 ?_))))
    · exact ⟨fun _ => rfl, fun d => absurd c d⟩
    · exact ⟨fun d => absurd d c, fun _ => rfl⟩
  · exact hX _ (br_t rfl (hY _ (br_f (by decide) ⟨rfl, L, sy, ir, hn, hl, h0, hT⟩)))
theorem i_vc_usable {k : Nat} {u : SX} {v : SY} (I : i_Rel k u v) (hk : k + 3 ≤ 1536) (v1 : Int32) (v2 : Int32) : wpX_usable (fun r => wpY_usable (fun r' v' => r' = r ∧ i_Rel (k + 3) u v') v v1 v2) u v1 v2 := by
  obtain ⟨nb, lg⟩ := u
  obtain ⟨ln, bs⟩ := v
  obtain ⟨L, sy, ir, hn, hl, h0, hT⟩ := I
  dsimp only at hn hl h0 hT
  unfold wpX_usable
  dsimp only
  rcases mt_2 v1 v2 with ⟨a, b, ha, hb, hab, rfl, rfl, hX, hY⟩ | ⟨hX, hY⟩
  · have hle := mc_le 1023 a
    have hle2 := mc_le (mc_cl 1023 a) b
    have hy : ∀ (r : Int32), (L a b = false → r = 0) → (L a b = true → (lg (mc_cl (mc_cl 1023 a) b) + 1 = lg 1023 → r = 1) ∧ (¬ lg (mc_cl (mc_cl 1023 a) b) + 1 = lg 1023 → r = 0)) →
        wpY_usable (fun r' v' => r' = r ∧ i_Rel (k + 3) (nb, lg) v') (ln, bs) (nI a) (nI b) := by
      intro r hr0 hr
      unfold wpY_usable
      dsimp only
      refine hY _ (br_t rfl (wy_work sy hl h0 (fun bs' hT' => ?_)))
      have hR : i_Rel (k + 3) (nb, lg) (ln, bs') := ⟨L, sy, ir, hn, hl, mg_0t (hT' 0 (by omega)), hT⟩
      dsimp only
      rw [mk_ix, mc_two (by omega) (by omega), nI_clamp (by omega : 10 * a + b < 2 ^ 31), nI_clamp (by omega : mc_cl (mc_cl 1023 a) b < 2 ^ 31), mk_b hl ha hb,
        mg_un rfl (hT' (mc_cl (mc_cl 1023 a) b) (by omega)) (hT _ (by omega)), mg_un rfl (hT' 1023 (by omega)) (hT _ (by omega))]
      refine ⟨vp_in_nI (by omega) (by omega), br_c (fun c => ⟨(hr0 c).symm, hR⟩) (fun c => ?_)⟩
      rw [Bool.not_eq_false] at c
      exact ⟨vp_in_nI (by omega) (by omega), br_c (fun d => ⟨((hr c).1 d).symm, hR⟩) (fun d => ⟨((hr c).2 d).symm, hR⟩)⟩
    refine hX _ (br_f (by decide) (wx_hl hn ha hb (fun c => br_f (by decide) (wx_mp (by omega) (by omega) (br_c (fun d => hy 1 ?_ ?_) (fun d => hy 0 ?_ ?_)))) (fun c => br_t rfl (hy 0 ?_ ?_))))
    · intro e; rw [c] at e; exact absurd e (by decide)
    · intro _; exact ⟨fun _ => rfl, fun e => absurd d e⟩
    · intro _; rfl
    · intro _; exact ⟨fun e => absurd e d, fun _ => rfl⟩
    · intro _; rfl
    · intro e; rw [c] at e; exact absurd e (by decide)
  · refine hX _ (br_t rfl ?_)
    unfold wpY_usable
    dsimp only
    exact hY _ (br_f (by decide) ⟨rfl, L, sy, ir, hn, hl, h0, hT⟩)
theorem i_vc_needed {k : Nat} {u : SX} {v : SY} (I : i_Rel k u v) (hk : k + 3 ≤ 1536) (v1 : Int32) (v2 : Int32) : wpX_needed (fun r => wpY_needed (fun r' v' => r' = r ∧ i_Rel (k + 3) u v') v v1 v2) u v1 v2 := by
  obtain ⟨nb, lg⟩ := u
  obtain ⟨ln, bs⟩ := v
  obtain ⟨L, sy, ir, hn, hl, h0, hT⟩ := I
  dsimp only at hn hl h0 hT
  unfold wpX_needed
  dsimp only
  rcases mt_2 v1 v2 with ⟨a, b, ha, hb, hab, rfl, rfl, hX, hY⟩ | ⟨hX, hY⟩
  · refine hX _ (br_f (by decide) (wx_wp sy ir hn hT ha hb hab (fun q hq => ?_)))
    have hy : ∀ (r : Int32), ((lg 1023 ≤ q → r = 0) ∧ (¬ lg 1023 ≤ q → r = 1)) → wpY_needed (fun r' v' => r' = r ∧ i_Rel (k + 3) (nb, lg) v') (ln, bs) (nI a) (nI b) := by
      intro r hr
      unfold wpY_needed
      dsimp only
      refine hY _ (br_t rfl (wy_most sy hl h0 (fun bs1 hT1 => ?_)))
      refine wy_set hl ha hb hab false (fun ln1 hl1 => ?_)
      have go : ∀ bs2 ln2, mr_T (ml_set L a b false) bs2 1024 → mr_ln L ln2 → wY_needed_44 (fun r' v' => r' = r ∧ i_Rel (k + 3) (nb, lg) v') (bs1 1023) (bs2 1023) ln2 bs2 := by
        intro bs2 ln2 hT2 hl2
        have hR : i_Rel (k + 3) (nb, lg) (ln2, bs2) := ⟨L, sy, ir, hn, hl2, mg_0t (hT2 0 (by omega)), hT⟩
        obtain ⟨n, e, hm⟩ := hq
        have e2 : bs2 1023 = q := mg_un (U := fun _ => q) rfl (hT2 1023 (by omega)) ⟨n, e, hm⟩
        unfold wY_needed_44
        rw [e2, mg_un rfl (hT1 1023 (by omega)) (hT _ (by omega))]
        exact br_c (fun c => ⟨(hr.1 c).symm, hR⟩) (fun c => ⟨(hr.2 c).symm, hR⟩)
      refine ⟨fun c => ?_, fun c => ?_⟩
      · refine wy_most (ml_sy sy a b false) hl1 (mg_0t (hT1 0 (by omega))) (fun bs2 hT2 => ?_)
        refine br_f (by decide) (go bs2 ln1 hT2 ?_)
        rw [ml_id sy c] at hl1
        exact hl1
      · refine wy_most (ml_sy sy a b false) hl1 (mg_0t (hT1 0 (by omega))) (fun bs2 hT2 => ?_)
        refine br_t rfl (wy_set hl1 ha hb hab true (fun ln2 hl2 => ?_))
        have c' : L a b = true := c
        rw [ml_2, ml_id sy c'] at hl2
        exact ⟨fun _ => go bs2 ln2 hT2 hl2, fun _ => go bs2 ln2 hT2 hl2⟩
    refine br_c (fun c => hy 0 ⟨fun _ => rfl, fun e => absurd c e⟩) (fun c => hy 1 ⟨fun e => absurd e c, fun _ => rfl⟩)
  · refine hX _ (br_t rfl ?_)
    unfold wpY_needed
    dsimp only
    exact hY _ (br_f (by decide) ⟨rfl, L, sy, ir, hn, hl, h0, hT⟩)
theorem i_vc_guards {k : Nat} {u : SX} {v : SY} (I : i_Rel k u v) (hk : k + 3 ≤ 1536) : wpX_guards (fun r => wpY_guards (fun r' v' => r' = r ∧ i_Rel (k + 3) u v') v) u := by
  obtain ⟨nb, lg⟩ := u
  obtain ⟨ln, bs⟩ := v
  obtain ⟨L, sy, ir, hn, hl, h0, hT⟩ := I
  dsimp only at hn hl h0 hT
  refine wx_gd hn (fun r g h1 h3 => ?_)
  refine wy_gd sy hl h0 (fun bs' r' g' hT' h2 h4 => ?_)
  exact ⟨md_eq hT hT' h1 h2 h3 h4, L, sy, ir, hn, hl, mg_0t (hT' 0 (by omega)), hT⟩
theorem i_vc_mostWithout {k : Nat} {u : SX} {v : SY} (I : i_Rel k u v) (hk : k + 3 ≤ 1536) (v1 : Int32) : wpX_mostWithout (fun r => wpY_mostWithout (fun r' v' => r' = r ∧ i_Rel (k + 3) u v') v v1) u v1 := by
  obtain ⟨nb, lg⟩ := u
  obtain ⟨ln, bs⟩ := v
  obtain ⟨L, sy, ir, hn, hl, h0, hT⟩ := I
  dsimp only at hn hl h0 hT
  unfold wpX_mostWithout wpY_mostWithout
  dsimp only
  obtain ⟨s, hs, e⟩ := mc_set v1
  rw [e, nI_clamp (by omega)]
  refine ⟨vp_in_nI hs (by omega), wy_work sy hl h0 (fun bs' hT' => ?_)⟩
  exact ⟨vp_in_nI hs (by omega), mg_un rfl (hT' s hs) (hT s hs), L, sy, ir, hn, hl, mg_0t (hT' 0 (by omega)), hT⟩
theorem i_vc_parts {k : Nat} {u : SX} {v : SY} (I : i_Rel k u v) (hk : k + 3 ≤ 1536) : wpX_parts (fun r => wpY_parts (fun r' v' => r' = r ∧ i_Rel (k + 3) u v') v) u := by
  obtain ⟨nb, lg⟩ := u
  obtain ⟨ln, bs⟩ := v
  obtain ⟨L, sy, ir, hn, hl, h0, hT⟩ := I
  dsimp only at hn hl h0 hT
  unfold wpX_parts
  dsimp only
  refine wx_gd hn (fun r g h1 h3 => ?_)
  intro x ex
  have hy : ∀ q : Int32, (∀ bs' : Nat → Int32, ∀ post : Int32 → SY → Prop, post q (ln, bs') → ∃ n, wY_parts_13 post ln bs' n x 0) → wpY_parts (fun r' v' => r' = q ∧ i_Rel (k + 3) (nb, lg) v') (ln, bs) := by
    intro q hq
    unfold wpY_parts
    dsimp only
    refine wy_gd sy hl h0 (fun bs' r' g' hT' h2 h4 => ?_)
    intro y ey
    have e : y = x := by rw [ey, ex, md_eq hT hT' h1 h2 h3 h4]
    rw [e]
    exact hq bs' _ ⟨rfl, L, sy, ir, hn, hl, mg_0t (hT' 0 (by omega)), hT⟩
  have hx : ∀ j, j < 32 → bt x j = true → 0 ≤ j ∧ j < 10 := by
    intro j hj h
    rw [ex, b_and, mb_1023 j hj, Bool.and_eq_true, decide_eq_true_iff] at h
    exact ⟨Nat.zero_le _, h.1⟩
  obtain ⟨q, hX, hY⟩ := mp_go ir hn hl (lg := lg) 10 0 x 0 rfl hx
  exact ⟨_, hX _ (hy q hY)⟩
end
