section
theorem pk_us {f : Nat → Int32} {k : Nat} {x : Int32} : upd f k x k = x := if_pos rfl
theorem pk_un {f : Nat → Int32} {k j : Nat} {x : Int32} (h : j ≠ k) : upd f k x j = f j := if_neg h
theorem pk_sub {a b : Nat} (h : b ≤ a) : nI a - nI b = nI (a - b) := by
  obtain ⟨c, rfl⟩ : ∃ c, a = c + b := ⟨a - b, by omega⟩
  rw [← nI_add, Int32.add_sub_cancel, Nat.add_sub_cancel]
theorem pk_mul (a b : Nat) : nI a * nI b = nI (a * b) := (Int32.ofNat_mul a b).symm
theorem pk_div {a d : Nat} (ha : a < 2 ^ 31) (h0 : 0 < d) (hd : d < 2 ^ 31) : nI a / nI d = nI (a / d) := by
  apply Int32.toInt_inj.mp
  rw [lg_idiv_nonneg (by rw [nI_toInt ha]; omega) (by rw [nI_toInt hd]; omega), nI_toInt ha, nI_toInt hd, nI_toInt (Nat.lt_of_le_of_lt (Nat.div_le_self a d) ha)]
  first | rfl | exact (Int.natCast_ediv _ _).symm
theorem pk_rem {a d : Nat} (ha : a < 2 ^ 31) (h0 : 0 < d) (hd : d < 2 ^ 31) : nI a - nI a / nI d * nI d = nI (a % d) := by
  rw [pk_div ha h0 hd, pk_mul, pk_sub (Nat.div_mul_le_self a d)]
  exact congrArg nI (by have := Nat.div_add_mod' a d; omega)
theorem pk_ix (x : Int32) {n : Nat} (hn : n < 2 ^ 31) : x < 0 ∨ nI n ≤ x ∨ ∃ j : Nat, j < n ∧ x = nI j := by
  by_cases h : x < 0
  · exact Or.inl h
  · obtain ⟨j, hj, rfl⟩ := nI_of h
    by_cases h2 : j < n
    · exact Or.inr (Or.inr ⟨j, h2, rfl⟩)
    · exact Or.inr (Or.inl (nI_le (by omega) hj))
theorem pk_le {x y : Int32} {A B : Prop} (a b : Nat) (f : a ≤ b → A) (g : b < a → B) (hx : x = nI a := by rfl) (hy : y = nI b := by rfl) (ha : a < 2 ^ 31 := by omega) (hb : b < 2 ^ 31 := by omega) : (x ≤ y → A) ∧ (¬ x ≤ y → B) := by
  subst hx hy
  rw [nI_leI ha hb]
  exact ⟨f, fun z => g (by omega)⟩
theorem pk_lt {x y : Int32} {A B : Prop} (a b : Nat) (f : a < b → A) (g : b ≤ a → B) (hx : x = nI a := by rfl) (hy : y = nI b := by rfl) (ha : a < 2 ^ 31 := by omega) (hb : b < 2 ^ 31 := by omega) : (x < y → A) ∧ (¬ x < y → B) := by
  subst hx hy
  rw [nI_ltI ha hb]
  exact ⟨f, fun z => g (by omega)⟩
theorem pk_eq {x y : Int32} {A B : Prop} (a b : Nat) (f : a = b → A) (g : a ≠ b → B) (hx : x = nI a := by rfl) (hy : y = nI b := by rfl) (ha : a < 2 ^ 31 := by omega) (hb : b < 2 ^ 31 := by omega) : (x = y → A) ∧ (¬ x = y → B) := by
  subst hx hy
  rw [nI_eq ha hb]
  exact ⟨f, g⟩
theorem pk_in {x : Int32} (n N : Nat) (h : n < N) (hx : x = nI n := by rfl) (hN : N < 2 ^ 31 := by omega) : vp_in x N := by
  subst hx
  exact vp_in_nI h hN
theorem pk_cl {x : Int32} (n : Nat) (hx : x = nI n := by rfl) (h : n < 2 ^ 31 := by omega) : x.toNatClampNeg = n := by
  subst hx
  exact nI_clamp h
theorem pk_loop {σ : Type} (W : Nat → Nat → σ → Prop) (I : Nat → σ → Prop) (e i0 : Nat) (s : σ) (hi : i0 ≤ e) (h0 : I i0 s) (hx : ∀ n s, I e s → W (n + 1) e s)
    (hs : ∀ n i s, i < e → I i s → (∀ s', I (i + 1) s' → W n (i + 1) s') → W (n + 1) i s) : ∃ n, W n i0 s :=
  ⟨e + 1, loop_i W I e hx hs (e + 1) i0 s hi (by omega) h0⟩
def bt (x : Int32) (i : Nat) : Bool := x.toBitVec.getLsbD i
theorem b_ext {x y : Int32} (h : ∀ i, i < 32 → bt x i = bt y i) : x = y := Int32.toBitVec_inj.mp (BitVec.eq_of_getLsbD_eq (fun i hi => h i hi))
theorem b_or (x y : Int32) (i : Nat) : bt (x ||| y) i = (bt x i || bt y i) := by unfold bt; rw [Int32.toBitVec_or, BitVec.getLsbD_or]
theorem b_and (x y : Int32) (i : Nat) : bt (x &&& y) i = (bt x i && bt y i) := by unfold bt; rw [Int32.toBitVec_and, BitVec.getLsbD_and]
theorem b_xor (x y : Int32) (i : Nat) : bt (x ^^^ y) i = (bt x i ^^ bt y i) := by unfold bt; rw [Int32.toBitVec_xor, BitVec.getLsbD_xor]
theorem b_big {x : Int32} {i : Nat} (h : 32 ≤ i) : bt x i = false := BitVec.getLsbD_of_ge _ _ h
theorem b_m1 : ∀ i, i < 32 → bt (-1) i = true := by decide +kernel
theorem b_0 (i : Nat) : bt 0 i = false := BitVec.getLsbD_zero
theorem s_l : ∀ n, n < 32 → ((nI n &&& 31).toBitVec.smod 32).toNat = n := by decide +kernel
theorem b_shl (n : Nat) (hn : n < 32) (x : Int32) {i : Nat} (hi : i < 32) : bt (x <<< (nI n &&& 31)) i = (decide (n ≤ i) && bt x (i - n)) := by
  unfold bt
  rw [Int32.toBitVec_shiftLeft]
  show (x.toBitVec <<< ((nI n &&& 31).toBitVec.smod 32).toNat).getLsbD i = _
  rw [s_l n hn, BitVec.getLsbD_shiftLeft]
  rcases Nat.lt_or_ge i n with h | h
  · simp [h, Nat.not_le.mpr h]
  · simp [hi, h, Nat.not_lt.mpr h]
theorem b_sshr (n : Nat) (hn : n < 32) (x : Int32) {i : Nat} (hi : i < 32) : bt (x >>> (nI n &&& 31)) i = if n + i < 32 then bt x (n + i) else bt x 31 := by
  unfold bt
  rw [Int32.toBitVec_shiftRight]
  show (x.toBitVec.sshiftRight ((nI n &&& 31).toBitVec.smod 32).toNat).getLsbD i = _
  rw [s_l n hn, BitVec.getLsbD_sshiftRight, BitVec.msb_eq_getLsbD_last]
  simp [hi]
theorem mb_nI (n : Nat) {i : Nat} (hi : i < 32) : bt (nI n) i = n.testBit i := by
  show (BitVec.ofNat 32 n).getLsbD i = _
  rw [BitVec.getLsbD_ofNat, decide_eq_true hi, Bool.true_and]
theorem mb_one : ∀ p, p < 32 → ∀ i, i < 32 → bt ((1 : Int32) <<< (nI p &&& 31)) i = decide (i = p) := by decide +kernel
theorem mb_1 : ∀ i, i < 32 → bt 1 i = decide (i = 0) := by decide +kernel
theorem mb_not (x : Int32) {i : Nat} (hi : i < 32) : bt (x ^^^ (-1)) i = !bt x i := by
  rw [b_xor, b_m1 i hi]; cases bt x i <;> rfl
theorem mb_b0 (x : Int32) {p : Nat} (hp : p < 32) : bt (x >>> (nI p &&& 31)) 0 = bt x p := by
  rw [b_sshr p hp x (by omega), if_pos (by omega)]; rfl
theorem mb_and1 (y : Int32) : y &&& 1 = 1 ↔ bt y 0 = true := by
  constructor
  · intro h
    have e : bt (y &&& 1) 0 = bt 1 0 := by rw [h]
    rw [b_and, mb_1 0 (by omega)] at e
    simpa using e
  · intro h
    apply b_ext
    intro i hi
    rw [b_and, mb_1 i hi]
    by_cases z : i = 0
    · subst z; rw [h]; rfl
    · rw [decide_eq_false z]; cases bt y i <;> rfl
theorem mb_and0 (y : Int32) : y &&& 1 = 0 ↔ bt y 0 = false := by
  constructor
  · intro h
    have e : bt (y &&& 1) 0 = bt 0 0 := by rw [h]
    rw [b_and, mb_1 0 (by omega), b_0] at e
    simpa using e
  · intro h
    apply b_ext
    intro i hi
    rw [b_and, mb_1 i hi, b_0]
    by_cases z : i = 0
    · subst z; rw [h]; rfl
    · rw [decide_eq_false z]; cases bt y i <;> rfl
theorem mb_has (x : Int32) {p : Nat} (hp : p < 32) : ((x >>> (nI p &&& 31)) &&& 1) = 1 ↔ bt x p = true := by
  rw [mb_and1, mb_b0 x hp]
theorem mb_has0 (x : Int32) {p : Nat} (hp : p < 32) : ((x >>> (nI p &&& 31)) &&& 1) = 0 ↔ bt x p = false := by
  rw [mb_and0, mb_b0 x hp]
theorem mb_ne0 (x : Int32) : (¬ x = 0) ↔ ∃ i, i < 32 ∧ bt x i = true := by
  constructor
  · intro h
    apply Classical.byContradiction
    intro z
    apply h
    apply b_ext
    intro i hi
    rw [b_0]
    cases e : bt x i
    · rfl
    · exact absurd ⟨i, hi, e⟩ z
  · rintro ⟨i, _, h⟩ z
    rw [z, b_0] at h
    exact absurd h (by decide)
/-! a set of points as a number: one point cleared -/
def mc_cl (s a : Nat) : Nat := if s.testBit a = true then s ^^^ 2 ^ a else s
theorem mc_tb (s a i : Nat) : (mc_cl s a).testBit i = (s.testBit i && decide (i ≠ a)) := by
  unfold mc_cl
  by_cases h : s.testBit a = true
  · rw [if_pos h, Nat.testBit_xor, Nat.testBit_two_pow]
    by_cases z : i = a
    · subst z; simp [h]
    · have z' : ¬ a = i := fun e => z e.symm
      simp [z, z']
  · rw [if_neg h]
    by_cases z : i = a
    · subst z
      have h' : s.testBit i = false := by cases e : s.testBit i <;> simp_all
      simp [h']
    · simp [z]
theorem mc_t {s a i : Nat} (h : (mc_cl s a).testBit i = true) : s.testBit i = true ∧ i ≠ a := by
  rw [mc_tb] at h
  simpa using h
theorem mc_i {s a i : Nat} (h : s.testBit i = true) (n : i ≠ a) : (mc_cl s a).testBit i = true := by
  rw [mc_tb, h, decide_eq_true n]; rfl
theorem mc_f (s a : Nat) : (mc_cl s a).testBit a = false := by
  rw [mc_tb]; simp
theorem mc_le (s a : Nat) : mc_cl s a ≤ s := by
  have e : mc_cl s a = s &&& mc_cl s a := by
    apply Nat.eq_of_testBit_eq
    intro i
    rw [Nat.testBit_and, mc_tb]
    cases s.testBit i <;> rfl
  rw [e]
  exact Nat.and_le_left
theorem mc_lt {s a : Nat} (h : s.testBit a = true) : mc_cl s a < s := by
  apply Nat.lt_of_le_of_ne (mc_le s a)
  intro e
  have f := mc_f s a
  rw [e, h] at f
  exact absurd f (by decide)
theorem mc_comm (s a b : Nat) : mc_cl (mc_cl s a) b = mc_cl (mc_cl s b) a := by
  apply Nat.eq_of_testBit_eq
  intro i
  simp only [mc_tb]
  cases s.testBit i <;> cases decide (i ≠ a) <;> cases decide (i ≠ b) <;> rfl
theorem mc_int (s : Nat) {p : Nat} (hp : p < 32) : nI s &&& (((1 : Int32) <<< (nI p &&& 31)) ^^^ (-1)) = nI (mc_cl s p) := by
  apply b_ext
  intro i hi
  rw [b_and, mb_not _ hi, mb_one p hp i hi, mb_nI _ hi, mb_nI _ hi, mc_tb]
  by_cases z : i = p <;> simp [z]
end
section
/-! pairings: n lines, no two with a point in common, within the set s -/
def mg_can (L : Nat → Nat → Bool) : Nat → Nat → Prop
  | 0, _ => True
  | n + 1, s => ∃ a b, a ≠ b ∧ s.testBit a = true ∧ s.testBit b = true ∧ L a b = true ∧ mg_can L n (mc_cl (mc_cl s a) b)
theorem mg_mono {L : Nat → Nat → Bool} : ∀ (n s t : Nat), (∀ i, s.testBit i = true → t.testBit i = true) → mg_can L n s → mg_can L n t := by
  intro n
  induction n with
  | zero => intro s t _ _; trivial
  | succ n ih =>
    intro s t h hc
    obtain ⟨a, b, hab, ha, hb, hL, hc⟩ := hc
    refine ⟨a, b, hab, h a ha, h b hb, hL, ih _ _ ?_ hc⟩
    intro i hi
    obtain ⟨h1, n1⟩ := mc_t hi
    obtain ⟨h2, n2⟩ := mc_t h1
    exact mc_i (mc_i (h i h2) n2) n1
theorem mg_bnd {L : Nat → Nat → Bool} : ∀ (n s : Nat), mg_can L n s → n ≤ s := by
  intro n
  induction n with
  | zero => intro s _; exact Nat.zero_le _
  | succ n ih =>
    intro s hc
    obtain ⟨a, b, hab, ha, hb, hL, hc⟩ := hc
    have h1 := ih _ hc
    have h2 := mc_le (mc_cl s a) b
    have h3 := mc_lt ha
    omega
theorem mg_up {L : Nat → Nat → Bool} {n s p : Nat} (h : mg_can L n (mc_cl s p)) : mg_can L n s := mg_mono n _ _ (fun _ hi => (mc_t hi).1) h
theorem mg_rem {L : Nat → Nat → Bool} (sy : ∀ a b, L a b = L b a) : ∀ (n s p : Nat), mg_can L n s →
    mg_can L n (mc_cl s p) ∨ ∃ m q, n = m + 1 ∧ q ≠ p ∧ s.testBit q = true ∧ L p q = true ∧ mg_can L m (mc_cl (mc_cl s p) q) := by
  intro n
  induction n with
  | zero => intro s p _; exact Or.inl trivial
  | succ n ih =>
    intro s p hc
    obtain ⟨a, b, hab, ha, hb, hL, hc⟩ := hc
    by_cases e1 : a = p
    · subst e1
      exact Or.inr ⟨n, b, rfl, fun e => hab e.symm, hb, hL, hc⟩
    · by_cases e2 : b = p
      · subst e2
        exact Or.inr ⟨n, a, rfl, hab, ha, (sy b a).trans hL, (mc_comm s a b) ▸ hc⟩
      · rcases ih _ p hc with h | ⟨m, q, hn, hq, hs, hl, hm⟩
        · refine Or.inl ⟨a, b, hab, mc_i ha e1, mc_i hb e2, hL, ?_⟩
          rw [mc_comm s p a, mc_comm _ p b]; exact h
        · obtain ⟨h1, n1⟩ := mc_t hs
          obtain ⟨h2, n2⟩ := mc_t h1
          refine Or.inr ⟨n, q, rfl, hq, h2, hl, ?_⟩
          subst hn
          refine ⟨a, b, hab, mc_i (mc_i ha e1) (fun e => n2 e.symm), mc_i (mc_i hb e2) (fun e => n1 e.symm), hL, ?_⟩
          rw [mc_comm _ q a, mc_comm s p a, mc_comm _ q b, mc_comm _ p b]; exact hm
theorem mg_loc {L L' : Nat → Nat → Bool} {a : Nat} (h : ∀ x y, x ≠ a → y ≠ a → L x y = L' x y) : ∀ (n s : Nat), s.testBit a = false → mg_can L n s → mg_can L' n s := by
  intro n
  induction n with
  | zero => intro s _ _; trivial
  | succ n ih =>
    intro s hs hc
    obtain ⟨x, y, hxy, hx, hy, hL, hc⟩ := hc
    have n1 : x ≠ a := fun e => by rw [e, hs] at hx; exact absurd hx (by decide)
    have n2 : y ≠ a := fun e => by rw [e, hs] at hy; exact absurd hy (by decide)
    refine ⟨x, y, hxy, hx, hy, (h x y n1 n2).symm.trans hL, ih _ ?_ hc⟩
    rw [mc_tb, mc_tb, hs]; rfl
def mg_mx (L : Nat → Nat → Bool) (s n : Nat) : Prop := mg_can L n s ∧ ∀ m, mg_can L m s → m ≤ n
/-- cell s of the table T holds the size of a largest pairing within s -/
def mg_tb (L : Nat → Nat → Bool) (T : Nat → Int32) (s : Nat) : Prop := ∃ n, T s = nI n ∧ mg_mx L s n
theorem mg_un {L : Nat → Nat → Bool} {T U : Nat → Int32} {s t : Nat} (hs : s = t) (h : mg_tb L T s) (h' : mg_tb L U t) : T s = U t := by
  subst hs
  obtain ⟨n, e, h1, h2⟩ := h
  obtain ⟨m, e', h3, h4⟩ := h'
  have a := h2 m h3
  have b := h4 n h1
  rw [e, e', Nat.le_antisymm a b]
theorem mg_t0 {L : Nat → Nat → Bool} {T : Nat → Int32} (h : T 0 = 0) : mg_tb L T 0 := ⟨0, h, trivial, fun m hm => mg_bnd m 0 hm⟩
theorem mg_0t {L : Nat → Nat → Bool} {T : Nat → Int32} (h : mg_tb L T 0) : T 0 = 0 := by
  obtain ⟨n, e, h1, _⟩ := h
  have := mg_bnd n 0 h1
  obtain rfl : n = 0 := by omega
  exact e
theorem mg_tl {L L' : Nat → Nat → Bool} {a s : Nat} (h : ∀ x y, x ≠ a → y ≠ a → L x y = L' x y) (hs : s.testBit a = false) {T : Nat → Int32} (ht : mg_tb L T s) : mg_tb L' T s := by
  obtain ⟨n, e, h1, h2⟩ := ht
  exact ⟨n, e, mg_loc h n s hs h1, fun m hm => h2 m (mg_loc (fun x y hx hy => (h x y hx hy).symm) m s hs hm)⟩
/-! the search over the partners of the point p of s: what the best so far is, once the partners below i are through -/
def mg_iv (L : Nat → Nat → Bool) (s p i : Nat) (x : Int32) : Prop := ∃ n, x = nI n ∧ mg_can L n s ∧ (∀ m, mg_can L m (mc_cl s p) → m ≤ n) ∧
  ∀ q, q < i → q ≠ p → s.testBit q = true → L p q = true → ∀ m, mg_can L m (mc_cl (mc_cl s p) q) → m + 1 ≤ n
theorem mg_i0 {L : Nat → Nat → Bool} {s p : Nat} {T : Nat → Int32} (h : mg_tb L T (mc_cl s p)) : mg_iv L s p 0 (T (mc_cl s p)) := by
  obtain ⟨n, e, h1, h2⟩ := h
  exact ⟨n, e, mg_up h1, h2, fun q hq => absurd hq (by omega)⟩
theorem mg_sk {L : Nat → Nat → Bool} {s p i : Nat} {x : Int32} (h : mg_iv L s p i x) (z : i ≠ p → s.testBit i = true → L p i = true → False) : mg_iv L s p (i + 1) x := by
  obtain ⟨n, e, h1, h2, h3⟩ := h
  refine ⟨n, e, h1, h2, fun q hq hp hs hl => ?_⟩
  by_cases c : q = i
  · subst c; exact (z hp hs hl).elim
  · exact h3 q (by omega) hp hs hl
theorem mg_no {L : Nat → Nat → Bool} {s p i : Nat} {x : Int32} {T : Nat → Int32} (hS : s < 1024) (h : mg_iv L s p i x) (ht : mg_tb L T (mc_cl (mc_cl s p) i)) (c : T (mc_cl (mc_cl s p) i) + 1 ≤ x) : mg_iv L s p (i + 1) x := by
  obtain ⟨n, e, h1, h2, h3⟩ := h
  obtain ⟨k, f, k1, k2⟩ := ht
  have b1 := mg_bnd n s h1
  have b2 := mg_bnd k _ k1
  have b3 := mc_le (mc_cl s p) i
  have b4 := mc_le s p
  rw [f, e, nI_1, nI_leI (by omega) (by omega)] at c
  refine ⟨n, e, h1, h2, fun q hq hp hs hl m hm => ?_⟩
  by_cases c : q = i
  · subst c
    have := k2 m hm
    omega
  · exact h3 q (by omega) hp hs hl m hm
theorem mg_ye {L : Nat → Nat → Bool} {s p i : Nat} {x : Int32} {T : Nat → Int32} (hS : s < 1024) (h : mg_iv L s p i x) (hp : s.testBit p = true) (hi : s.testBit i = true) (hne : i ≠ p) (hl : L p i = true)
    (ht : mg_tb L T (mc_cl (mc_cl s p) i)) (c : ¬ T (mc_cl (mc_cl s p) i) + 1 ≤ x) : mg_iv L s p (i + 1) (T (mc_cl (mc_cl s p) i) + 1) := by
  obtain ⟨n, e, h1, h2, h3⟩ := h
  obtain ⟨k, f, k1, k2⟩ := ht
  have b1 := mg_bnd n s h1
  have b2 := mg_bnd k _ k1
  have b3 := mc_le (mc_cl s p) i
  have b4 := mc_le s p
  rw [f, e, nI_1, nI_leI (by omega) (by omega)] at c
  refine ⟨k + 1, by rw [f, nI_1], ⟨p, i, fun e => hne e.symm, hp, hi, hl, k1⟩, fun m hm => ?_, fun q hq hp hs hl m hm => ?_⟩
  · have := h2 m hm
    omega
  · by_cases c : q = i
    · subst c
      have := k2 m hm
      omega
    · have := h3 q (by omega) hp hs hl m hm
      omega
theorem mg_en {L : Nat → Nat → Bool} (sy : ∀ a b, L a b = L b a) {s p e : Nat} {x : Int32} (h : mg_iv L s p e x) (he : ∀ q, s.testBit q = true → q ≠ p → q < e) : ∃ n, x = nI n ∧ mg_mx L s n := by
  obtain ⟨n, e, h1, h2, h3⟩ := h
  refine ⟨n, e, h1, fun m hm => ?_⟩
  rcases mg_rem sy m s p hm with h | ⟨k, q, rfl, hq, hs, hl, hk⟩
  · exact h2 m h
  · exact h3 q (he q hs hq) hq hs hl k hk
end
section
/-! what the two states hold of the lines L -/
def mr_nb (L : Nat → Nat → Bool) (nb : Nat → Int32) : Prop := ∀ p, p < 10 → ∀ q, q < 32 → bt (nb p) q = (decide (q < 10) && L p q)
def mr_ln (L : Nat → Nat → Bool) (ln : Nat → Int32) : Prop := ∀ p, p < 10 → ∀ q, q < 10 → ln (10 * p + q) = if L p q = true then 1 else 0
def mr_T (L : Nat → Nat → Bool) (T : Nat → Int32) (e : Nat) : Prop := ∀ t, t < e → mg_tb L T t
theorem mr_up {L : Nat → Nat → Bool} {T : Nat → Int32} {e : Nat} {r : Int32} (h : mr_T L T e) (hr : ∃ n, r = nI n ∧ mg_mx L e n) : mr_T L (upd T e r) (e + 1) := by
  intro t ht
  by_cases z : t = e
  · subst z
    obtain ⟨n, h1, h2⟩ := hr
    exact ⟨n, by rw [pk_us, h1], h2⟩
  · obtain ⟨n, h1, h2⟩ := h t (by omega)
    exact ⟨n, by rw [pk_un z, h1], h2⟩
theorem mb_pow : ∀ p, p < 10 → (1 : Int32) <<< (nI p &&& 31) = nI (2 ^ p) := by decide +kernel
theorem mb_p2 : ∀ p, p < 10 → 2 ^ p ≤ 512 := by decide +kernel
theorem ms_tb {top rest : Nat} (h : rest < 2 ^ top) (i : Nat) : (2 ^ top + rest).testBit i = (decide (i = top) || rest.testBit i) := by
  have e := Nat.two_pow_add_eq_or_of_lt h 1
  rw [Nat.mul_one] at e
  rw [e, Nat.testBit_or, Nat.testBit_two_pow]
  by_cases z : i = top
  · subst z; simp
  · have z' : ¬ top = i := fun e => z e.symm
    simp [z, z']
theorem ms_lt {top rest q : Nat} (h : rest < 2 ^ top) (hq : rest.testBit q = true) : q < top := by
  apply Classical.byContradiction
  intro z
  have a : rest.testBit q = false := Nat.testBit_lt_two_pow (Nat.lt_of_lt_of_le h (Nat.pow_le_pow_right (by decide) (by omega)))
  rw [a] at hq
  exact absurd hq (by decide)
theorem ms_cl {top rest : Nat} (h : rest < 2 ^ top) : mc_cl (2 ^ top + rest) top = rest := by
  apply Nat.eq_of_testBit_eq
  intro i
  rw [mc_tb, ms_tb h]
  by_cases z : i = top
  · subst z
    have a : rest.testBit i = false := Nat.testBit_lt_two_pow h
    simp [a]
  · simp [z]
theorem ms_or {top rest : Nat} (ht : top < 10) (h : rest < 2 ^ top) : ((1 : Int32) <<< (nI top &&& 31)) ||| nI rest = nI (2 ^ top + rest) := by
  apply b_ext
  intro i hi
  rw [b_or, mb_one top (by omega) i hi, mb_nI _ hi, mb_nI _ hi, ms_tb h]
theorem wx_ct {post : Int32 → Prop} {x : Int32} {p : Nat} (hp : p < 32) (h1 : bt x p = true → post 1) (h0 : bt x p = false → post 0) : wpX_contains post x (nI p) := by
  unfold wpX_contains
  refine br_c (fun c => h1 ((mb_has x hp).1 c)) (fun c => h0 ?_)
  cases e : bt x p
  · rfl
  · exact absurd ((mb_has x hp).2 e) c
theorem wx_mt {L : Nat → Nat → Bool} (sy : ∀ a b, L a b = L b a) {nb lg : Nat → Int32} (hn : mr_nb L nb) {top rest : Nat} (ht : top < 10) (hr : rest < 2 ^ top) (hT : mr_T L lg (2 ^ top + rest))
    {post : Int32 → Prop} (h : ∀ r, (∃ n, r = nI n ∧ mg_mx L (2 ^ top + rest) n) → post r) : wpX_mostWithTop post (nb, lg) (nI top) (nI rest) := by
  have h2 := mb_p2 top ht
  have hb : ∀ q, (2 ^ top + rest).testBit q = true → q ≠ top → q < top := by
    intro q hq hne
    rw [ms_tb hr, decide_eq_false hne, Bool.false_or] at hq
    exact ms_lt hr hq
  have hp : (2 ^ top + rest).testBit top = true := by rw [ms_tb hr]; simp
  have hpos : 0 < 2 ^ top := Nat.pow_pos (by decide)
  refine ⟨vp_in_nI (by omega) (by omega), ?_⟩
  intro x3 e3
  refine ⟨vp_in_nI ht (by omega), ?_⟩
  intro x4 e4
  rw [nI_clamp (by omega)] at e3 e4
  refine loop_0 (fun n i (x : Int32) => wX_mostWithTop_20 post (nI top) (nI rest) x4 nb lg n x (nI i)) (fun i x => mg_iv L (2 ^ top + rest) top i x) top x3 ?_ ?_ ?_
  · have a := mg_i0 (L := L) (s := 2 ^ top + rest) (p := top) (T := lg) (by rw [ms_cl hr]; exact hT rest (by omega))
    rw [ms_cl hr] at a
    rw [e3]; exact a
  · intro n x hI
    exact br_t (nI_le (Nat.le_refl _) (by omega)) (h x (mg_en sy hI hb))
  · intro n i x hi hI ih
    have hbt : bt x4 i = (L top i && rest.testBit i) := by
      rw [e4, b_and, hn top ht i (by omega), mb_nI _ (by omega), decide_eq_true (by omega), Bool.true_and]
    have hsi : (2 ^ top + rest).testBit i = rest.testBit i := by rw [ms_tb hr, decide_eq_false (by omega), Bool.false_or]
    refine br_f (nI_ge hi (by omega)) ?_
    refine wx_ct (by omega) (fun hc => ?_) (fun hc => ?_)
    · rw [hbt, Bool.and_eq_true] at hc
      have hlt := mc_le rest i
      have hTi : mg_tb L lg (mc_cl (mc_cl (2 ^ top + rest) top) i) := by rw [ms_cl hr]; exact hT _ (by omega)
      refine br_f (by decide) ?_
      rw [mc_int rest (by omega)]
      refine ⟨vp_in_nI (by omega) (by omega), ?_⟩
      rw [nI_clamp (by omega)]
      intro y ey
      have ey' : y = lg (mc_cl (mc_cl (2 ^ top + rest) top) i) + 1 := by rw [ey, ms_cl hr, Int32.add_comm]
      rw [ey']
      refine br_c (fun c z ez => ?_) (fun c z ez => ?_)
      · rw [ez, nI_1]; exact ih _ (mg_no (by omega) hI hTi c)
      · rw [ez, nI_1]; exact ih _ (mg_ye (by omega) hI hp (hsi.trans hc.2) (by omega) hc.1 hTi c)
    · refine br_t rfl ?_
      intro z ez
      rw [ez, nI_1]
      refine ih _ (mg_sk hI (fun _ hs hl => ?_))
      rw [hsi] at hs
      rw [hbt, hs, hl] at hc
      exact absurd hc (by decide)
theorem wx_f10 {L : Nat → Nat → Bool} (sy : ∀ a b, L a b = L b a) {nb lg : Nat → Int32} (hn : mr_nb L nb) {top : Nat} (ht : top < 10) (hT : mr_T L lg (2 ^ top))
    {post : SX → Prop} {J2 : Int32 → (Nat → Int32) → (Nat → Int32) → Prop} (h : ∀ lg', mr_T L lg' (2 ^ (top + 1)) → J2 (nI (top + 1)) nb lg') : ∃ n, wX_fillLargest_10 post J2 (nI top) n 0 nb lg := by
  have h2 := mb_p2 top ht
  refine loop_0 (fun n i (a : Nat → Int32) => wX_fillLargest_10 post J2 (nI top) n (nI i) nb a) (fun i a => mr_T L a (2 ^ top + i)) (2 ^ top) lg hT ?_ ?_
  · intro n a hI
    refine br_t (by rw [mb_pow top ht]; exact nI_le (Nat.le_refl _) (by omega)) ?_
    intro x ex
    rw [ex, nI_1]
    refine h a ?_
    rw [show 2 ^ (top + 1) = 2 ^ top + 2 ^ top by rw [Nat.pow_succ]; omega]
    exact hI
  · intro n i a hi hI ih
    refine br_f (by rw [mb_pow top ht]; exact nI_ge hi (by omega)) ?_
    refine wx_mt sy hn ht hi hI ?_
    intro r hr
    rw [ms_or ht hi]
    refine ⟨vp_in_nI (by omega) (by omega), ?_⟩
    rw [nI_clamp (by omega)]
    intro b eb x ex
    rw [ex, nI_1, eb]
    exact ih _ (mr_up hI hr)
theorem wx_fill {L : Nat → Nat → Bool} (sy : ∀ a b, L a b = L b a) {nb lg : Nat → Int32} (hn : mr_nb L nb) (h0 : lg 0 = 0)
    {post : SX → Prop} (h : ∀ lg', mr_T L lg' 1024 → post (nb, lg')) : wpX_fillLargest post (nb, lg) := by
  refine loop_0 (fun n i (a : Nat → Int32) => wX_fillLargest_2 post n (nI i) nb a) (fun i a => mr_T L a (2 ^ i)) 10 lg ?_ ?_ ?_
  · intro t ht
    obtain rfl : t = 0 := by omega
    exact mg_t0 h0
  · intro n a hI
    exact br_t (nI_le (b := 10) (Nat.le_refl _) (by decide)) (h a hI)
  · intro n i a hi hI ih
    refine br_f (nI_ge (b := 10) hi (by decide)) ?_
    exact wx_f10 sy hn hi hI ih
end
section
theorem mk_ix (p q : Nat) : (10 * nI p) + nI q = nI (10 * p + q) := by
  show nI 10 * nI p + nI q = _
  rw [pk_mul, nI_add]
theorem mk_b {L : Nat → Nat → Bool} {ln : Nat → Int32} (hl : mr_ln L ln) {p q : Nat} (hp : p < 10) (hq : q < 10) : ln (10 * p + q) = 0 ↔ L p q = false := by
  rw [hl p hp q hq]
  cases L p q <;> decide
theorem ms_10 {s : Nat} (h : s < 1024) {q : Nat} (hq : s.testBit q = true) : q < 10 := ms_lt (top := 10) h hq
theorem wy_22 {L : Nat → Nat → Bool} (sy : ∀ a b, L a b = L b a) {ln bs : Nat → Int32} (hl : mr_ln L ln) {s p : Nat} (hs : s < 1024) (hp : p < 10) (hsp : s.testBit p = true) (hT : mr_T L bs s)
    {post : Int32 → Prop} (h : ∀ r, (∃ n, r = nI n ∧ mg_mx L s n) → post r) : wY_pair_22 post (nI s) (nI p) ln bs := by
  have hlt := mc_lt hsp
  unfold wY_pair_22
  rw [mc_int s (by omega)]
  intro x3 e3
  rw [e3]
  refine ⟨vp_in_nI (by omega) (by omega), ?_⟩
  rw [nI_clamp (by omega)]
  intro x4 e4
  refine loop_0 (fun n i (x : Int32) => wY_pair_41 post (nI p) (nI (mc_cl s p)) ln bs n x (nI i)) (fun i x => mg_iv L s p i x) 10 x4 ?_ ?_ ?_
  · rw [e4]; exact mg_i0 (hT _ hlt)
  · intro n x hI
    exact br_t (nI_le (b := 10) (Nat.le_refl _) (by decide)) (h x (mg_en sy hI (fun q hq _ => ms_10 hs hq)))
  · intro n i x hi hI ih
    refine br_f (nI_ge (b := 10) hi (by decide)) ?_
    refine br_c (fun c => ?_) (fun c => ?_)
    · rw [mb_has _ (by omega), mb_nI _ (by omega)] at c
      obtain ⟨c1, c2⟩ := mc_t c
      rw [mk_ix]
      refine ⟨vp_in_nI (by omega) (by omega), ?_⟩
      rw [nI_clamp (by omega)]
      refine br_c (fun d => ?_) (fun d => ?_)
      · intro z ez
        rw [ez, nI_1]
        rw [mk_b hl hp hi] at d
        exact ih _ (mg_sk hI (fun _ _ e => by rw [d] at e; exact absurd e (by decide)))
      · rw [mk_b hl hp hi, Bool.not_eq_false] at d
        have hlt2 := mc_le (mc_cl s p) i
        rw [mc_int _ (by omega)]
        refine ⟨vp_in_nI (by omega) (by omega), ?_⟩
        rw [nI_clamp (by omega)]
        refine br_c (fun f => ?_) (fun f => ?_)
        · intro z ez
          rw [ez, nI_1]
          exact ih _ (mg_no hs hI (hT _ (by omega)) f)
        · refine ⟨vp_in_nI (by omega) (by omega), ?_⟩
          intro y ey z ez
          rw [ez, nI_1, ey]
          exact ih _ (mg_ye hs hI hsp c1 c2 d (hT _ (by omega)) f)
    · intro z ez
      rw [ez, nI_1]
      rw [mb_has _ (by omega), mb_nI _ (by omega)] at c
      exact ih _ (mg_sk hI (fun a b _ => c (mc_i b a)))
theorem wy_pair {L : Nat → Nat → Bool} (sy : ∀ a b, L a b = L b a) {ln bs : Nat → Int32} (hl : mr_ln L ln) {s : Nat} (hs : s < 1024) (h0 : 0 < s) (hT : mr_T L bs s)
    {post : Int32 → Prop} (h : ∀ r, (∃ n, r = nI n ∧ mg_mx L s n) → post r) : wpY_pair post (ln, bs) (nI s) := by
  refine loop_0 (fun n i (_ : Unit) => wY_pair_2 post (nI s) ln bs n (nI i)) (fun i _ => ∀ j, j < i → s.testBit j = false) 10 () ?_ ?_ ?_
  · intro j hj; exact absurd hj (by omega)
  · intro n _ hI
    exfalso
    have e : s = 0 := by
      apply Nat.eq_of_testBit_eq
      intro i
      rw [Nat.zero_testBit]
      cases e : s.testBit i
      · rfl
      · rw [← e]; exact hI i (ms_10 hs e)
    omega
  · intro n i _ hi hI ih
    refine br_f (nI_ge (b := 10) hi (by decide)) ?_
    refine br_c (fun c => ?_) (fun c => ?_)
    · rw [mb_has0 _ (by omega), mb_nI _ (by omega)] at c
      intro z ez
      rw [ez, nI_1]
      exact ih () (lt_s hI c)
    · rw [mb_has0 _ (by omega), mb_nI _ (by omega), Bool.not_eq_false] at c
      exact wy_22 sy hl hs hi c hT h
theorem wy_work {L : Nat → Nat → Bool} (sy : ∀ a b, L a b = L b a) {ln bs : Nat → Int32} (hl : mr_ln L ln) (h0 : bs 0 = 0)
    {post : SY → Prop} (h : ∀ bs', mr_T L bs' 1024 → post (ln, bs')) : wpY_work post (ln, bs) := by
  refine pk_loop (fun n i (a : Nat → Int32) => wY_work_2 post n (nI i) ln a) (fun i a => 0 < i ∧ mr_T L a i) 1024 1 bs (by decide) ?_ ?_ ?_
  · refine ⟨by decide, fun t ht => ?_⟩
    obtain rfl : t = 0 := by omega
    exact mg_t0 h0
  · intro n a hI
    exact br_t (nI_le (b := 1024) (Nat.le_refl _) (by decide)) (h a hI.2)
  · intro n i a hi hI ih
    refine br_f (nI_ge (b := 1024) hi (by decide)) ?_
    refine wy_pair sy hl hi hI.1 hI.2 ?_
    intro r hr
    refine ⟨vp_in_nI (by omega) (by omega), ?_⟩
    rw [nI_clamp (by omega)]
    intro b eb x ex
    rw [ex, nI_1, eb]
    exact ih _ ⟨by omega, mr_up hI.2 hr⟩
end
section
/-! the lines with the one between a and b set -/
def ml_set (L : Nat → Nat → Bool) (a b : Nat) (on : Bool) : Nat → Nat → Bool := fun x y => if (x = a ∧ y = b) ∨ (x = b ∧ y = a) then on else L x y
theorem ml_y {L : Nat → Nat → Bool} {a b x y : Nat} {on : Bool} (h : (x = a ∧ y = b) ∨ (x = b ∧ y = a)) : ml_set L a b on x y = on := if_pos h
theorem ml_n {L : Nat → Nat → Bool} {a b x y : Nat} {on : Bool} (h : ¬ ((x = a ∧ y = b) ∨ (x = b ∧ y = a))) : ml_set L a b on x y = L x y := if_neg h
theorem ml_sy {L : Nat → Nat → Bool} (sy : ∀ x y, L x y = L y x) (a b : Nat) (on : Bool) : ∀ x y, ml_set L a b on x y = ml_set L a b on y x := by
  intro x y
  by_cases h : (x = a ∧ y = b) ∨ (x = b ∧ y = a)
  · rw [ml_y h, ml_y (by omega)]
  · rw [ml_n h, ml_n (by omega)]; exact sy x y
theorem ml_ir {L : Nat → Nat → Bool} (ir : ∀ x, L x x = false) {a b : Nat} (h : a ≠ b) (on : Bool) : ∀ x, ml_set L a b on x x = false := by
  intro x
  rw [ml_n (by omega)]; exact ir x
theorem ml_id {L : Nat → Nat → Bool} (sy : ∀ x y, L x y = L y x) {a b : Nat} {on : Bool} (h : L a b = on) : ml_set L a b on = L := by
  funext x y
  by_cases z : (x = a ∧ y = b) ∨ (x = b ∧ y = a)
  · rw [ml_y z]
    rcases z with ⟨rfl, rfl⟩ | ⟨rfl, rfl⟩
    · exact h.symm
    · rw [sy]; exact h.symm
  · exact ml_n z
theorem ml_2 {L : Nat → Nat → Bool} {a b : Nat} {on on' : Bool} : ml_set (ml_set L a b on) a b on' = ml_set L a b on' := by
  funext x y
  by_cases z : (x = a ∧ y = b) ∨ (x = b ∧ y = a)
  · rw [ml_y z, ml_y z]
  · rw [ml_n z, ml_n z, ml_n z]
theorem ml_fl {L : Nat → Nat → Bool} (sy : ∀ x y, L x y = L y x) {nb : Nat → Int32} (hn : mr_nb L nb) {a b : Nat} (ha : a < 10) (hb : b < 10) (hab : a ≠ b) {on : Bool} (hon : L a b = !on) :
    mr_nb (ml_set L a b on) (upd (upd nb a (nb a ^^^ ((1 : Int32) <<< (nI b &&& 31)))) b (nb b ^^^ ((1 : Int32) <<< (nI a &&& 31)))) := by
  intro p hp q hq
  by_cases e1 : p = b
  · subst e1
    rw [pk_us, b_xor, hn p hp q hq, mb_one a (by omega) q hq]
    by_cases e2 : q = a
    · subst e2
      rw [ml_y (by omega), sy p q, hon]
      simp [ha]
    · rw [ml_n (by omega)]
      simp [e2]
  · rw [pk_un e1]
    by_cases e3 : p = a
    · subst e3
      rw [pk_us, b_xor, hn p hp q hq, mb_one b (by omega) q hq]
      by_cases e2 : q = b
      · subst e2
        rw [ml_y (by omega), hon]
        simp [hb]
      · rw [ml_n (by omega)]
        simp [e2]
    · rw [pk_un e3, hn p hp q hq, ml_n (by omega)]
theorem wx_fp {L : Nat → Nat → Bool} (sy : ∀ x y, L x y = L y x) {nb lg : Nat → Int32} (hn : mr_nb L nb) (h0 : lg 0 = 0) {a b : Nat} (ha : a < 10) (hb : b < 10) (hab : a ≠ b) {on : Bool} (hon : L a b = !on)
    {post : SX → Prop} (h : ∀ nb' lg', mr_nb (ml_set L a b on) nb' → mr_T (ml_set L a b on) lg' 1024 → post (nb', lg')) : wpX_flipLine post (nb, lg) (nI a) (nI b) := by
  unfold wpX_flipLine
  dsimp only
  refine ⟨vp_in_nI ha (by omega), vp_in_nI ha (by omega), ?_⟩
  intro n1 e1
  rw [nI_clamp (by omega)] at e1
  refine ⟨vp_in_nI hb (by omega), vp_in_nI hb (by omega), ?_⟩
  intro n2 e2
  rw [nI_clamp (by omega), e1, pk_un (fun e => hab e.symm)] at e2
  have hn2 : mr_nb (ml_set L a b on) n2 := by rw [e2]; exact ml_fl sy hn ha hb hab hon
  exact wx_fill (ml_sy sy a b on) hn2 h0 (fun lg' hT => h n2 lg' hn2 hT)
theorem wx_hl {L : Nat → Nat → Bool} {nb lg : Nat → Int32} (hn : mr_nb L nb) {a b : Nat} (ha : a < 10) (hb : b < 10)
    {post : Int32 → Prop} (h1 : L a b = true → post 1) (h0 : L a b = false → post 0) : wpX_hasLine post (nb, lg) (nI a) (nI b) := by
  refine ⟨vp_in_nI ha (by omega), ?_⟩
  rw [nI_clamp (by omega)]
  have e : bt (nb a) b = L a b := by rw [hn a ha b (by omega), decide_eq_true hb, Bool.true_and]
  exact wx_ct (by omega) (fun c => ⟨rfl, h1 (e ▸ c)⟩) (fun c => ⟨rfl, h0 (e ▸ c)⟩)
def mo_I (on : Bool) : Int32 := if on = true then 1 else 0
theorem mo_n (on : Bool) : vp_nar .boolean (mo_I on) = mo_I on := by cases on <;> rfl
theorem wy_set {L : Nat → Nat → Bool} {ln bs : Nat → Int32} (hl : mr_ln L ln) {a b : Nat} (ha : a < 10) (hb : b < 10) (hab : a ≠ b) (on : Bool)
    {post : Int32 → SY → Prop} (h : ∀ ln', mr_ln (ml_set L a b on) ln' → (L a b = on → post 0 (ln', bs)) ∧ (L a b = !on → post 1 (ln', bs))) : wpY_set post (ln, bs) (nI a) (nI b) (mo_I on) := by
  unfold wpY_set
  dsimp only
  rw [mk_ix, mk_ix, mo_n]
  refine ⟨vp_in_nI (by omega) (by omega), ?_⟩
  intro x ex
  refine ⟨vp_in_nI (by omega) (by omega), ?_⟩
  intro l1 e1
  refine ⟨vp_in_nI (by omega) (by omega), ?_⟩
  intro l2 e2
  rw [nI_clamp (by omega)] at ex e1 e2
  have hl2 : mr_ln (ml_set L a b on) l2 := by
    intro p hp q hq
    by_cases z : (p = a ∧ q = b) ∨ (p = b ∧ q = a)
    · rw [ml_y z, e2, e1]
      by_cases z1 : p = b ∧ q = a
      · rw [z1.1, z1.2, pk_us]; rfl
      · rw [pk_un (by omega)]
        have z2 : p = a ∧ q = b := by omega
        rw [z2.1, z2.2, pk_us]; rfl
    · rw [ml_n z, e2, e1, pk_un (by omega), pk_un (by omega)]
      exact hl p hp q hq
  obtain ⟨h1, h2⟩ := h l2 hl2
  rw [hl a ha b hb] at ex
  rw [ex]
  cases e : L a b <;> cases on
  · exact br_t rfl (h1 e)
  · exact br_f (by decide) (h2 e)
  · exact br_f (by decide) (h2 e)
  · exact br_t rfl (h1 e)
theorem mt_1 (v : Int32) : (∃ a, a < 10 ∧ v = nI a ∧ (∀ post : Int32 → Prop, post 1 → wpX_isPoint post v) ∧ (∀ post : Int32 → Prop, post 0 → wpY_bad post v)) ∨
    ((∀ post : Int32 → Prop, post 0 → wpX_isPoint post v) ∧ (∀ post : Int32 → Prop, post 1 → wpY_bad post v)) := by
  rcases pk_ix v (n := 10) (by decide) with h | h | ⟨a, ha, rfl⟩
  · exact Or.inr ⟨fun _ hp => br_t h hp, fun _ hp => br_t h hp⟩
  · have h0 : ¬ v < 0 := Int32.not_lt.mpr (Int32.le_trans (by decide) h)
    have h9 : ¬ v ≤ 9 := fun z => absurd (Int32.le_trans h z) (by decide)
    exact Or.inr ⟨fun _ hp => br_f h0 (br_t h hp), fun _ hp => br_f h0 (br_f h9 hp)⟩
  · have h0 : ¬ nI a < 0 := nI_pos (by omega)
    exact Or.inl ⟨a, ha, rfl, fun _ hp => br_f h0 (br_f (nI_ge (b := 10) ha (by decide)) hp), fun _ hp => br_f h0 (br_t (nI_le (b := 9) (by omega) (by decide)) hp)⟩
theorem mt_2 (v w : Int32) : (∃ a b, a < 10 ∧ b < 10 ∧ a ≠ b ∧ v = nI a ∧ w = nI b ∧ (∀ post : Int32 → Prop, post 1 → wpX_isTwoPoints post v w) ∧ (∀ post : Int32 → Prop, post 0 → wpY_refused post v w)) ∨
    ((∀ post : Int32 → Prop, post 0 → wpX_isTwoPoints post v w) ∧ (∀ post : Int32 → Prop, post 1 → wpY_refused post v w)) := by
  unfold wpX_isTwoPoints wpY_refused
  rcases mt_1 v with ⟨a, ha, rfl, hX, hY⟩ | ⟨hX, hY⟩
  · rcases mt_1 w with ⟨b, hb, rfl, gX, gY⟩ | ⟨gX, gY⟩
    · by_cases e : a = b
      · exact Or.inr ⟨fun _ hp => hX _ (br_f (by decide) (gX _ (br_f (by decide) (br_t (congrArg nI e) hp)))), fun _ hp => hY _ (br_t rfl (gY _ (br_t rfl (br_t (congrArg nI e) hp))))⟩
      · have e' : ¬ nI a = nI b := fun z => e ((nI_eq (by omega) (by omega)).1 z)
        exact Or.inl ⟨a, b, ha, hb, e, rfl, rfl, fun _ hp => hX _ (br_f (by decide) (gX _ (br_f (by decide) (br_f e' hp)))), fun _ hp => hY _ (br_t rfl (gY _ (br_t rfl (br_f e' hp))))⟩
    · exact Or.inr ⟨fun _ hp => hX _ (br_f (by decide) (gX _ (br_t rfl hp))), fun _ hp => hY _ (br_t rfl (gY _ (br_f (by decide) hp)))⟩
  · exact Or.inr ⟨fun _ hp => hX _ (br_t rfl hp), fun _ hp => hY _ (br_f (by decide) hp)⟩
/-! indices under the whole set -/
theorem mb_all : ∀ i, i < 10 → Nat.testBit 1023 i = true := by decide
theorem mc_all {p : Nat} (hp : p < 32) : (1023 : Int32) &&& (((1 : Int32) <<< (nI p &&& 31)) ^^^ (-1)) = nI (mc_cl 1023 p) := mc_int 1023 hp
theorem mb_1023 : ∀ i, i < 32 → bt 1023 i = decide (i < 10) := by decide +kernel
theorem mc_two {a b : Nat} (ha : a < 32) (hb : b < 32) : (1023 : Int32) &&& ((((1 : Int32) <<< (nI a &&& 31)) ||| ((1 : Int32) <<< (nI b &&& 31))) ^^^ (-1)) = nI (mc_cl (mc_cl 1023 a) b) := by
  rw [← mc_int _ hb, ← mc_all ha]
  apply b_ext
  intro i hi
  simp only [b_and, mb_not _ hi, b_or]
  cases bt 1023 i <;> cases bt ((1 : Int32) <<< (nI a &&& 31)) i <;> cases bt ((1 : Int32) <<< (nI b &&& 31)) i <;> rfl
theorem mc_set (x : Int32) : ∃ s, s < 1024 ∧ (1023 : Int32) &&& (x ^^^ (-1)) = nI s := by
  refine ⟨((1023 : Int32) &&& (x ^^^ (-1))).toBitVec.toNat, ?_, ?_⟩
  · rw [Int32.toBitVec_and, BitVec.toNat_and]
    exact Nat.lt_of_le_of_lt Nat.and_le_left (by decide)
  · generalize (1023 : Int32) &&& (x ^^^ (-1)) = y
    apply Int32.toBitVec_inj.mp
    show y.toBitVec = BitVec.ofNat 32 y.toBitVec.toNat
    rw [BitVec.ofNat_toNat, BitVec.setWidth_eq]
theorem wx_mp {nb lg : Nat → Int32} {a b : Nat} (ha : a < 32) (hb : b < 32) {post : Int32 → Prop} (h : post (lg (mc_cl (mc_cl 1023 a) b) + 1)) : wpX_mostWithPair post (nb, lg) (nI a) (nI b) := by
  unfold wpX_mostWithPair
  dsimp only
  have h1 := mc_le 1023 a
  have h2 := mc_le (mc_cl 1023 a) b
  rw [mc_all ha, mc_int _ hb, nI_clamp (by omega), Int32.add_comm]
  exact ⟨vp_in_nI (by omega) (by omega), h⟩
theorem wx_wp {L : Nat → Nat → Bool} (sy : ∀ x y, L x y = L y x) (ir : ∀ x, L x x = false) {nb lg : Nat → Int32} (hn : mr_nb L nb) (hT : mr_T L lg 1024) {a b : Nat} (ha : a < 10) (hb : b < 10) (hab : a ≠ b)
    {post : Int32 → Prop} (h : ∀ r, (∃ n, r = nI n ∧ mg_mx (ml_set L a b false) 1023 n) → post r) : wpX_mostWithoutPair post (nb, lg) (nI a) (nI b) := by
  have h1 := mc_le 1023 a
  have hT1 : ∀ t, t < 1024 → t.testBit a = false → mg_tb (ml_set L a b false) lg t := fun t ht hf =>
    mg_tl (a := a) (fun x y hx hy => (ml_n (by omega)).symm) hf (hT t ht)
  unfold wpX_mostWithoutPair
  dsimp only
  rw [mc_all (by omega)]
  refine ⟨vp_in_nI (by omega) (by omega), ?_⟩
  rw [nI_clamp (by omega)]
  intro x3 e3
  refine loop_0 (fun n i (x : Int32) => wX_mostWithoutPair_18 post (nI a) (nI b) nb lg n x (nI i)) (fun i x => mg_iv (ml_set L a b false) 1023 a i x) 10 x3 ?_ ?_ ?_
  · rw [e3]; exact mg_i0 (hT1 _ (by omega) (mc_f _ _))
  · intro n x hI
    exact br_t (nI_le (b := 10) (Nat.le_refl _) (by decide)) (h x (mg_en (ml_sy sy a b false) hI (fun q hq _ => ms_10 (by decide) hq)))
  · intro n i x hi hI ih
    refine br_f (nI_ge (b := 10) hi (by decide)) ?_
    refine br_c (fun c => ?_) (fun c => ?_)
    · rw [nI_eq (by omega) (by omega)] at c
      intro z ez
      rw [ez, nI_1]
      refine ih _ (mg_sk hI (fun _ _ e => ?_))
      rw [ml_y (by omega)] at e
      exact absurd e (by decide)
    · rw [nI_eq (by omega) (by omega)] at c
      have hL : ml_set L a b false a i = L a i := ml_n (by omega)
      refine wx_hl hn ha hi (fun d => ?_) (fun d => ?_)
      · refine br_f (by decide) ?_
        refine wx_mp (by omega) (by omega) ?_
        have hia : i ≠ a := fun e => by rw [e, ir a] at d; exact absurd d (by decide)
        have h2 := mc_le (mc_cl 1023 a) i
        have hTi : mg_tb (ml_set L a b false) lg (mc_cl (mc_cl 1023 a) i) := hT1 _ (by omega) (by rw [mc_tb, mc_f]; rfl)
        refine br_c (fun f z ez => ?_) (fun f z ez => ?_)
        · rw [ez, nI_1]; exact ih _ (mg_no (by decide) hI hTi f)
        · rw [ez, nI_1]; exact ih _ (mg_ye (by decide) hI (mb_all a ha) (mb_all i hi) hia (hL.trans d) hTi f)
      · refine br_t rfl ?_
        intro z ez
        rw [ez, nI_1]
        refine ih _ (mg_sk hI (fun _ _ e => ?_))
        rw [hL, d] at e
        exact absurd e (by decide)
theorem wy_most {L : Nat → Nat → Bool} (sy : ∀ a b, L a b = L b a) {ln bs : Nat → Int32} (hl : mr_ln L ln) (h0 : bs 0 = 0)
    {post : Int32 → SY → Prop} (h : ∀ bs', mr_T L bs' 1024 → post (bs' 1023) (ln, bs')) : wpY_most post (ln, bs) := by
  unfold wpY_most
  dsimp only
  exact wy_work sy hl h0 (fun bs' hT => h bs' hT)
end
