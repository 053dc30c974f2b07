/-! pairings: n lines, no two with a point in common, within the set s -/
def mg_can (L : Nat → Nat → Bool) : Nat → Nat → Prop
  | 0, _ => True
  | n + 1, s => ∃ a b, a ≠ b ∧ s.testBit a = true ∧ s.testBit b = true ∧ L a b = true ∧ mg_can L n (mc_cl (mc_cl s a) b)
theorem mg_mono {L : Nat → Nat → Bool} : ∀ (n s t : Nat), (∀ i, s.testBit i = true → t.testBit i = true) → mg_can L n s → mg_can L n t := by
  intro n
  induction n with
  | zero => intro s t _ _; trivial
  | succ n ih =>
    intro s t h hc
    obtain ⟨a, b, hab, ha, hb, hL, hc⟩ := hc
    refine ⟨a, b, hab, h a ha, h b hb, hL, ih _ _ ?_ hc⟩
    intro i hi
    obtain ⟨h1, n1⟩ := mc_t hi
    obtain ⟨h2, n2⟩ := mc_t h1
    exact mc_i (mc_i (h i h2) n2) n1
theorem mg_bnd {L : Nat → Nat → Bool} : ∀ (n s : Nat), mg_can L n s → n ≤ s := by
  intro n
  induction n with
  | zero => intro s _; exact Nat.zero_le _
  | succ n ih =>
    intro s hc
    obtain ⟨a, b, hab, ha, hb, hL, hc⟩ := hc
    have h1 := ih _ hc
    have h2 := mc_le (mc_cl s a) b
    have h3 := mc_lt ha
    omega
theorem mg_up {L : Nat → Nat → Bool} {n s p : Nat} (h : mg_can L n (mc_cl s p)) : mg_can L n s := mg_mono n _ _ (fun _ hi => (mc_t hi).1) h
theorem mg_rem {L : Nat → Nat → Bool} (sy : ∀ a b, L a b = L b a) : ∀ (n s p : Nat), mg_can L n s →
    mg_can L n (mc_cl s p) ∨ ∃ m q, n = m + 1 ∧ q ≠ p ∧ s.testBit q = true ∧ L p q = true ∧ mg_can L m (mc_cl (mc_cl s p) q) := by
  intro n
  induction n with
  | zero => intro s p _; exact Or.inl trivial
  | succ n ih =>
    intro s p hc
    obtain ⟨a, b, hab, ha, hb, hL, hc⟩ := hc
    by_cases e1 : a = p
    · subst e1
      exact Or.inr ⟨n, b, rfl, fun e => hab e.symm, hb, hL, hc⟩
    · by_cases e2 : b = p
      · subst e2
        exact Or.inr ⟨n, a, rfl, hab, ha, (sy b a).trans hL, (mc_comm s a b) ▸ hc⟩
      · rcases ih _ p hc with h | ⟨m, q, hn, hq, hs, hl, hm⟩
        · refine Or.inl ⟨a, b, hab, mc_i ha e1, mc_i hb e2, hL, ?_⟩
          rw [mc_comm s p a, mc_comm _ p b]; exact h
        · obtain ⟨h1, n1⟩ := mc_t hs
          obtain ⟨h2, n2⟩ := mc_t h1
          refine Or.inr ⟨n, q, rfl, hq, h2, hl, ?_⟩
          subst hn
          refine ⟨a, b, hab, mc_i (mc_i ha e1) (fun e => n2 e.symm), mc_i (mc_i hb e2) (fun e => n1 e.symm), hL, ?_⟩
          rw [mc_comm _ q a, mc_comm s p a, mc_comm _ q b, mc_comm _ p b]; exact hm
theorem mg_loc {L L' : Nat → Nat → Bool} {a : Nat} (h : ∀ x y, x ≠ a → y ≠ a → L x y = L' x y) : ∀ (n s : Nat), s.testBit a = false → mg_can L n s → mg_can L' n s := by
  intro n
  induction n with
  | zero => intro s _ _; trivial
  | succ n ih =>
    intro s hs hc
    obtain ⟨x, y, hxy, hx, hy, hL, hc⟩ := hc
    have n1 : x ≠ a := fun e => by rw [e, hs] at hx; exact absurd hx (by decide)
    have n2 : y ≠ a := fun e => by rw [e, hs] at hy; exact absurd hy (by decide)
    refine ⟨x, y, hxy, hx, hy, (h x y n1 n2).symm.trans hL, ih _ ?_ hc⟩
    rw [mc_tb, mc_tb, hs]; rfl
def mg_mx (L : Nat → Nat → Bool) (s n : Nat) : Prop := mg_can L n s ∧ ∀ m, mg_can L m s → m ≤ n
/-- cell s of the table T holds the size of a largest pairing within s -/
def mg_tb (L : Nat → Nat → Bool) (T : Nat → Int32) (s : Nat) : Prop := ∃ n, T s = nI n ∧ mg_mx L s n
theorem mg_un {L : Nat → Nat → Bool} {T U : Nat → Int32} {s t : Nat} (hs : s = t) (h : mg_tb L T s) (h' : mg_tb L U t) : T s = U t := by
  subst hs
  obtain ⟨n, e, h1, h2⟩ := h
  obtain ⟨m, e', h3, h4⟩ := h'
  have a := h2 m h3
  have b := h4 n h1
  rw [e, e', Nat.le_antisymm a b]
theorem mg_t0 {L : Nat → Nat → Bool} {T : Nat → Int32} (h : T 0 = 0) : mg_tb L T 0 := ⟨0, h, trivial, fun m hm => mg_bnd m 0 hm⟩
theorem mg_0t {L : Nat → Nat → Bool} {T : Nat → Int32} (h : mg_tb L T 0) : T 0 = 0 := by
  obtain ⟨n, e, h1, _⟩ := h
  have := mg_bnd n 0 h1
  obtain rfl : n = 0 := by omega
  exact e
theorem mg_tl {L L' : Nat → Nat → Bool} {a s : Nat} (h : ∀ x y, x ≠ a → y ≠ a → L x y = L' x y) (hs : s.testBit a = false) {T : Nat → Int32} (ht : mg_tb L T s) : mg_tb L' T s := by
  obtain ⟨n, e, h1, h2⟩ := ht
  exact ⟨n, e, mg_loc h n s hs h1, fun m hm => h2 m (mg_loc (fun x y hx hy => (h x y hx hy).symm) m s hs hm)⟩
/-! the search over the partners of the point p of s: what the best so far is, once the partners below i are through -/
def mg_iv (L : Nat → Nat → Bool) (s p i : Nat) (x : Int32) : Prop := ∃ n, x = nI n ∧ mg_can L n s ∧ (∀ m, mg_can L m (mc_cl s p) → m ≤ n) ∧
  ∀ q, q < i → q ≠ p → s.testBit q = true → L p q = true → ∀ m, mg_can L m (mc_cl (mc_cl s p) q) → m + 1 ≤ n
theorem mg_i0 {L : Nat → Nat → Bool} {s p : Nat} {T : Nat → Int32} (h : mg_tb L T (mc_cl s p)) : mg_iv L s p 0 (T (mc_cl s p)) := by
  obtain ⟨n, e, h1, h2⟩ := h
  exact ⟨n, e, mg_up h1, h2, fun q hq => absurd hq (by omega)⟩
theorem mg_sk {L : Nat → Nat → Bool} {s p i : Nat} {x : Int32} (h : mg_iv L s p i x) (z : i ≠ p → s.testBit i = true → L p i = true → False) : mg_iv L s p (i + 1) x := by
  obtain ⟨n, e, h1, h2, h3⟩ := h
  refine ⟨n, e, h1, h2, fun q hq hp hs hl => ?_⟩
  by_cases c : q = i
  · subst c; exact (z hp hs hl).elim
  · exact h3 q (by omega) hp hs hl
theorem mg_no {L : Nat → Nat → Bool} {s p i : Nat} {x : Int32} {T : Nat → Int32} (hS : s < 1024) (h : mg_iv L s p i x) (ht : mg_tb L T (mc_cl (mc_cl s p) i)) (c : T (mc_cl (mc_cl s p) i) + 1 ≤ x) : mg_iv L s p (i + 1) x := by
  obtain ⟨n, e, h1, h2, h3⟩ := h
  obtain ⟨k, f, k1, k2⟩ := ht
  have b1 := mg_bnd n s h1
  have b2 := mg_bnd k _ k1
  have b3 := mc_le (mc_cl s p) i
  have b4 := mc_le s p
  rw [f, e, nI_1, nI_leI (by omega) (by omega)] at c
  refine ⟨n, e, h1, h2, fun q hq hp hs hl m hm => ?_⟩
  by_cases c : q = i
  · subst c
    have := k2 m hm
    omega
  · exact h3 q (by omega) hp hs hl m hm
theorem mg_ye {L : Nat → Nat → Bool} {s p i : Nat} {x : Int32} {T : Nat → Int32} (hS : s < 1024) (h : mg_iv L s p i x) (hp : s.testBit p = true) (hi : s.testBit i = true) (hne : i ≠ p) (hl : L p i = true)
    (ht : mg_tb L T (mc_cl (mc_cl s p) i)) (c : ¬ T (mc_cl (mc_cl s p) i) + 1 ≤ x) : mg_iv L s p (i + 1) (T (mc_cl (mc_cl s p) i) + 1) := by
  obtain ⟨n, e, h1, h2, h3⟩ := h
  obtain ⟨k, f, k1, k2⟩ := ht
  have b1 := mg_bnd n s h1
  have b2 := mg_bnd k _ k1
  have b3 := mc_le (mc_cl s p) i
  have b4 := mc_le s p
  rw [f, e, nI_1, nI_leI (by omega) (by omega)] at c
  refine ⟨k + 1, by rw [f, nI_1], ⟨p, i, fun e => hne e.symm, hp, hi, hl, k1⟩, fun m hm => ?_, fun q hq hp hs hl m hm => ?_⟩
  · have := h2 m hm
    omega
  · by_cases c : q = i
    · subst c
      have := k2 m hm
      omega
    · have := h3 q (by omega) hp hs hl m hm
      omega
theorem mg_en {L : Nat → Nat → Bool} (sy : ∀ a b, L a b = L b a) {s p e : Nat} {x : Int32} (h : mg_iv L s p e x) (he : ∀ q, s.testBit q = true → q ≠ p → q < e) : ∃ n, x = nI n ∧ mg_mx L s n := by
  obtain ⟨n, e, h1, h2, h3⟩ := h
  refine ⟨n, e, h1, fun m hm => ?_⟩
  rcases mg_rem sy m s p hm with h | ⟨k, q, rfl, hq, hs, hl, hk⟩
  · exact h2 m h
  · exact h3 q (he q hs hq) hq hs hl k hk
