section
section CC
/-! counting: how many i below n satisfy p -/
noncomputable def cc_n (p : Nat → Prop) : Nat → Nat
  | 0 => 0
  | n + 1 => cc_n p n + @ite Nat (p n) (Classical.propDecidable (p n)) 1 0
theorem cc_0 {p : Nat → Prop} : cc_n p 0 = 0 := rfl
theorem cc_t {p : Nat → Prop} {n : Nat} (h : p n) : cc_n p (n + 1) = cc_n p n + 1 := by
  show cc_n p n + @ite Nat (p n) (Classical.propDecidable (p n)) 1 0 = _
  rw [if_pos h]
theorem cc_f {p : Nat → Prop} {n : Nat} (h : ¬ p n) : cc_n p (n + 1) = cc_n p n := by
  show cc_n p n + @ite Nat (p n) (Classical.propDecidable (p n)) 1 0 = _
  rw [if_neg h]; rfl
theorem cc_ext {p q : Nat → Prop} : ∀ n, (∀ i, i < n → (p i ↔ q i)) → cc_n p n = cc_n q n := by
  intro n
  induction n with
  | zero => intro _; rfl
  | succ n ih =>
    intro h
    have e := ih (fun i hi => h i (by omega))
    have hn := h n (by omega)
    by_cases c : p n
    · rw [cc_t c, cc_t (hn.mp c), e]
    · rw [cc_f c, cc_f (fun d => c (hn.mpr d)), e]
theorem cc_add {p q : Nat → Prop} {a : Nat} (ha : ¬ p a) : ∀ n, a < n → (∀ i, i < n → (q i ↔ (p i ∨ i = a))) → cc_n q n = cc_n p n + 1 := by
  intro n
  induction n with
  | zero => intro h; omega
  | succ n ih =>
    intro h hq
    by_cases e : a = n
    · subst e
      have e2 : cc_n q a = cc_n p a := cc_ext a (fun i hi => ⟨fun z => ((hq i (by omega)).mp z).elim id (fun z => absurd z (by omega)), fun z => (hq i (by omega)).mpr (Or.inl z)⟩)
      rw [cc_t ((hq a (by omega)).mpr (Or.inr rfl)), cc_f ha, e2]
    · have e2 := ih (by omega) (fun i hi => hq i (by omega))
      have hn := hq n (by omega)
      by_cases c : p n
      · rw [cc_t c, cc_t (hn.mpr (Or.inl c)), e2]
      · rw [cc_f c, cc_f (fun d => (hn.mp d).elim c (fun z => e z.symm)), e2]
theorem cc_le {p : Nat → Prop} : ∀ n, cc_n p n ≤ n := by
  intro n
  induction n with
  | zero => exact Nat.le_refl _
  | succ n ih =>
    by_cases c : p n
    · rw [cc_t c]; omega
    · rw [cc_f c]; omega
theorem cc_mono {p q : Nat → Prop} : ∀ n, (∀ i, i < n → p i → q i) → cc_n p n ≤ cc_n q n := by
  intro n
  induction n with
  | zero => intro _; exact Nat.le_refl _
  | succ n ih =>
    intro h
    have e := ih (fun i hi => h i (by omega))
    have hn := h n (by omega)
    by_cases c : p n
    · rw [cc_t c, cc_t (hn c)]; omega
    · rw [cc_f c]
      by_cases d : q n
      · rw [cc_t d]; omega
      · rw [cc_f d]; exact e
/-- the numbers 1..B, counted below n + 1 -/
theorem cc_rg (B : Nat) : ∀ n, cc_n (fun v => v ≠ 0 ∧ v ≤ B) (n + 1) = if n ≤ B then n else B := by
  intro n
  induction n with
  | zero => rw [cc_f (fun z => z.1 rfl), if_pos (Nat.zero_le _)]; rfl
  | succ n ih =>
    by_cases c : n + 1 ≤ B
    · rw [cc_t (p := fun v => v ≠ 0 ∧ v ≤ B) ⟨by omega, c⟩, ih, if_pos c, if_pos (by omega)]
    · rw [cc_f (fun z => c z.2), ih, if_neg c]
      split <;> omega
/-- the place i is the first one that holds its value, a value with P -/
def cc_F (f : Nat → Nat) (P : Nat → Prop) (i : Nat) : Prop := f i ≠ 0 ∧ (∀ j, j < i → f j ≠ f i) ∧ P (f i)
/-- first places are as many as different values -/
theorem cc_first (f : Nat → Nat) (P : Nat → Prop) (M : Nat) : ∀ n, (∀ i, i < n → f i < M) → cc_n (cc_F f P) n = cc_n (fun v => v ≠ 0 ∧ (∃ i, i < n ∧ f i = v) ∧ P v) M := by
  intro n
  induction n with
  | zero =>
    intro _
    have e : ∀ m, cc_n (fun v => v ≠ 0 ∧ (∃ i, i < 0 ∧ f i = v) ∧ P v) m = 0 := by
      intro m
      induction m with
      | zero => rfl
      | succ m ih => rw [cc_f (fun z => by obtain ⟨_, ⟨i, hi, _⟩, _⟩ := z; omega), ih]
    rw [e]; rfl
  | succ n ih =>
    intro h
    have e := ih (fun i hi => h i (by omega))
    by_cases c : cc_F f P n
    · rw [cc_t c, e]
      refine (cc_add (a := f n) ?_ M (h n (by omega)) ?_).symm
      · rintro ⟨_, ⟨i, hi, he⟩, _⟩
        exact c.2.1 i hi he
      · intro v _
        constructor
        · rintro ⟨v0, ⟨i, hi, he⟩, hp⟩
          by_cases g : i = n
          · exact Or.inr (by rw [← he, g])
          · exact Or.inl ⟨v0, ⟨i, by omega, he⟩, hp⟩
        · rintro (⟨v0, ⟨i, hi, he⟩, hp⟩ | hv)
          · exact ⟨v0, ⟨i, by omega, he⟩, hp⟩
          · rw [hv]; exact ⟨c.1, ⟨n, by omega, rfl⟩, c.2.2⟩
    · rw [cc_f c, e]
      refine cc_ext M (fun v hv => ⟨?_, ?_⟩)
      · rintro ⟨v0, ⟨i, hi, he⟩, hp⟩
        exact ⟨v0, ⟨i, by omega, he⟩, hp⟩
      · rintro ⟨v0, ⟨i, hi, he⟩, hp⟩
        by_cases g : i = n
        · subst g
          subst he
          by_cases k : ∃ j, j < i ∧ f j = f i
          · exact ⟨v0, k, hp⟩
          · exact absurd ⟨v0, fun j hj z => k ⟨j, hj, z⟩, hp⟩ c
        · exact ⟨v0, ⟨i, by omega, he⟩, hp⟩
end CC
end
section
section AA
/-! arrays: a part copied, a part cleared, two parts exchanged -/
def aa_cp {α : Type} (a : Nat → α) (s t c : Nat) : Nat → α := fun j => if t ≤ j ∧ j < t + c then a (s + (j - t)) else a j
def aa_cl {α : Type} (z : α) (a : Nat → α) (s c : Nat) : Nat → α := fun j => if s ≤ j ∧ j < s + c then z else a j
def aa_sw {α : Type} (a : Nat → α) (x y c : Nat) : Nat → α := fun j => if x ≤ j ∧ j < x + c then a (y + (j - x)) else if y ≤ j ∧ j < y + c then a (x + (j - y)) else a j
def aa_u {α : Type} (f : Nat → α) (k : Nat) (x : α) : Nat → α := fun j => if j = k then x else f j
theorem aa_uI (f : Nat → Int32) (k : Nat) (x : Int32) : upd f k x = aa_u f k x := rfl
theorem aa_uL (f : Nat → Int64) (k : Nat) (x : Int64) : vp_updL f k x = aa_u f k x := rfl
/-- two parts that don't overlap, or are the same -/
def aa_ok (s t c : Nat) : Prop := s = t ∨ s + c ≤ t ∨ t + c ≤ s
theorem aa_cp0 {α : Type} (a : Nat → α) (s t : Nat) : aa_cp a s t 0 = a := by
  funext j; unfold aa_cp; rw [if_neg (by omega)]
theorem aa_cl0 {α : Type} (z : α) (a : Nat → α) (s : Nat) : aa_cl z a s 0 = a := by
  funext j; unfold aa_cl; rw [if_neg (by omega)]
theorem aa_sw0 {α : Type} (a : Nat → α) (x y : Nat) : aa_sw a x y 0 = a := by
  funext j; unfold aa_sw; rw [if_neg (by omega), if_neg (by omega)]
theorem aa_cpR {α : Type} (a : Nat → α) {s t c i : Nat} (h : aa_ok s t c) (hi : i < c) : aa_cp a s t i (s + i) = a (s + i) := by
  unfold aa_cp
  by_cases g : t ≤ s + i ∧ s + i < t + i
  · rw [if_pos g]
    unfold aa_ok at h
    have e : s + (s + i - t) = s + i := by omega
    rw [e]
  · rw [if_neg g]
theorem aa_cpS {α : Type} (a : Nat → α) {s t c i : Nat} (h : aa_ok s t c) (hi : i < c) : aa_u (aa_cp a s t i) (t + i) (aa_cp a s t i (s + i)) = aa_cp a s t (i + 1) := by
  rw [aa_cpR a h hi]
  funext j
  unfold aa_u aa_cp
  by_cases g : j = t + i
  · rw [if_pos g, if_pos (by omega)]
    have e : s + (j - t) = s + i := by omega
    rw [e]
  · rw [if_neg g]
    by_cases k : t ≤ j ∧ j < t + i
    · rw [if_pos k, if_pos (by omega)]
    · rw [if_neg k, if_neg (by omega)]
theorem aa_clS {α : Type} (z : α) (a : Nat → α) {s i : Nat} : aa_u (aa_cl z a s i) (s + i) z = aa_cl z a s (i + 1) := by
  funext j
  unfold aa_u aa_cl
  by_cases g : j = s + i
  · rw [if_pos g, if_pos (by omega)]
  · rw [if_neg g]
    by_cases k : s ≤ j ∧ j < s + i
    · rw [if_pos k, if_pos (by omega)]
    · rw [if_neg k, if_neg (by omega)]
theorem aa_swX {α : Type} (a : Nat → α) {x y c i : Nat} (h : aa_ok x y c) (hi : i < c) : aa_sw a x y i (x + i) = a (x + i) := by
  unfold aa_sw
  rw [if_neg (by omega)]
  unfold aa_ok at h
  rw [if_neg (by omega)]
theorem aa_swY {α : Type} (a : Nat → α) {x y c i : Nat} (h : aa_ok x y c) (hi : i < c) : aa_sw a x y i (y + i) = a (y + i) := by
  unfold aa_sw
  unfold aa_ok at h
  rw [if_neg (by omega), if_neg (by omega)]
theorem aa_swS {α : Type} (a : Nat → α) {x y c i : Nat} (h : aa_ok x y c) (hi : i < c) : aa_u (aa_u (aa_sw a x y i) (x + i) (aa_sw a x y i (y + i))) (y + i) (aa_sw a x y i (x + i)) = aa_sw a x y (i + 1) := by
  rw [aa_swX a h hi, aa_swY a h hi]
  funext j
  unfold aa_u aa_sw
  unfold aa_ok at h
  by_cases g : j = y + i
  · rw [if_pos g]
    by_cases k : x ≤ j ∧ j < x + (i + 1)
    · rw [if_pos k]
      have e : y + (j - x) = x + i := by omega
      rw [e]
    · rw [if_neg k, if_pos (by omega)]
      have e : x + (j - y) = x + i := by omega
      rw [e]
  · rw [if_neg g]
    by_cases g2 : j = x + i
    · rw [if_pos g2, if_pos (by omega)]
      have e : y + (j - x) = y + i := by omega
      rw [e]
    · rw [if_neg g2]
      by_cases k : x ≤ j ∧ j < x + i
      · rw [if_pos k, if_pos (by omega)]
      · rw [if_neg k]
        by_cases k2 : y ≤ j ∧ j < y + i
        · rw [if_pos k2, if_neg (by omega), if_pos (by omega)]
        · rw [if_neg k2, if_neg (by omega), if_neg (by omega)]
/-- move: a place copied, then the old one cleared, one by one -/
theorem aa_mvS {α : Type} (z : α) (a : Nat → α) {s t c i : Nat} (h : s + c ≤ t ∨ t + c ≤ s) (hi : i < c) :
    aa_u (aa_u (aa_cl z (aa_cp a s t i) s i) (t + i) (aa_cl z (aa_cp a s t i) s i (s + i))) (s + i) z = aa_cl z (aa_cp a s t (i + 1)) s (i + 1) := by
  have e1 : aa_cl z (aa_cp a s t i) s i (s + i) = a (s + i) := by
    unfold aa_cl
    rw [if_neg (by omega)]
    exact aa_cpR a (c := c) (by unfold aa_ok; omega) hi
  rw [e1]
  funext j
  unfold aa_u aa_cl aa_cp
  by_cases g : j = s + i
  · rw [if_pos g, if_pos (by omega)]
  · rw [if_neg g]
    by_cases g2 : j = t + i
    · rw [if_pos g2, if_neg (by omega), if_pos (by omega)]
      have e : s + (j - t) = s + i := by omega
      rw [e]
    · rw [if_neg g2]
      by_cases k : s ≤ j ∧ j < s + i
      · rw [if_pos k, if_pos (by omega)]
      · rw [if_neg k, if_neg (show ¬ (s ≤ j ∧ j < s + (i + 1)) by omega)]
        by_cases k2 : t ≤ j ∧ j < t + i
        · rw [if_pos k2, if_pos (by omega)]
        · rw [if_neg k2, if_neg (by omega)]
end AA
end
section
section BB
/-! rows of kit/rows (bits, pure), as they stand there -/
def bt (x : Int32) (i : Nat) : Bool := x.toBitVec.getLsbD i
theorem b_ext {x y : Int32} (h : ∀ i, i < 32 → bt x i = bt y i) : x = y := Int32.toBitVec_inj.mp (BitVec.eq_of_getLsbD_eq (fun i hi => h i hi))
theorem b_or (x y : Int32) (i : Nat) : bt (x ||| y) i = (bt x i || bt y i) := by unfold bt; rw [Int32.toBitVec_or, BitVec.getLsbD_or]
theorem b_and (x y : Int32) (i : Nat) : bt (x &&& y) i = (bt x i && bt y i) := by unfold bt; rw [Int32.toBitVec_and, BitVec.getLsbD_and]
theorem b_big {x : Int32} {i : Nat} (h : 32 ≤ i) : bt x i = false := BitVec.getLsbD_of_ge _ _ h
theorem b_0 (i : Nat) : bt 0 i = false := BitVec.getLsbD_zero
theorem s_l : ∀ n, n < 32 → ((nI n &&& 31).toBitVec.smod 32).toNat = n := by decide +kernel
theorem b_shl (n : Nat) (hn : n < 32) (x : Int32) {i : Nat} (hi : i < 32) : bt (x <<< (nI n &&& 31)) i = (decide (n ≤ i) && bt x (i - n)) := by
  unfold bt
  rw [Int32.toBitVec_shiftLeft]
  show (x.toBitVec <<< ((nI n &&& 31).toBitVec.smod 32).toNat).getLsbD i = _
  rw [s_l n hn, BitVec.getLsbD_shiftLeft]
  rcases Nat.lt_or_ge i n with h | h
  · simp [h, Nat.not_le.mpr h]
  · simp [hi, h, Nat.not_lt.mpr h]
theorem pk_us {f : Nat → Int32} {k : Nat} {x : Int32} : upd f k x k = x := if_pos rfl
theorem pk_un {f : Nat → Int32} {k j : Nat} {x : Int32} (h : j ≠ k) : upd f k x j = f j := if_neg h
theorem pk_uLs {f : Nat → Int64} {k : Nat} {x : Int64} : vp_updL f k x k = x := if_pos rfl
theorem pk_uLn {f : Nat → Int64} {k j : Nat} {x : Int64} (h : j ≠ k) : vp_updL f k x j = f j := if_neg h
theorem pk_sub {a b : Nat} (h : b ≤ a) : nI a - nI b = nI (a - b) := by
  obtain ⟨c, rfl⟩ : ∃ c, a = c + b := ⟨a - b, by omega⟩
  rw [← nI_add, Int32.add_sub_cancel, Nat.add_sub_cancel]
theorem pk_m1 (n : Nat) : nI (n + 1) + (-1) = nI n := by
  rw [← nI_1, Int32.add_assoc, show (1 : Int32) + (-1) = 0 from rfl, Int32.add_zero]
theorem pk_mul (a b : Nat) : nI a * nI b = nI (a * b) := (Int32.ofNat_mul a b).symm
theorem pk_ix (x : Int32) {n : Nat} (hn : n < 2 ^ 31) : x < 0 ∨ nI n ≤ x ∨ ∃ j : Nat, j < n ∧ x = nI j := by
  by_cases h : x < 0
  · exact Or.inl h
  · obtain ⟨j, hj, rfl⟩ := nI_of h
    by_cases h2 : j < n
    · exact Or.inr (Or.inr ⟨j, h2, rfl⟩)
    · exact Or.inr (Or.inl (nI_le (by omega) hj))
theorem pk_le {x y : Int32} {A B : Prop} (a b : Nat) (f : a ≤ b → A) (g : b < a → B) (hx : x = nI a := by rfl) (hy : y = nI b := by rfl) (ha : a < 2 ^ 31 := by omega) (hb : b < 2 ^ 31 := by omega) : (x ≤ y → A) ∧ (¬ x ≤ y → B) := by
  subst hx hy
  rw [nI_leI ha hb]
  exact ⟨f, fun z => g (by omega)⟩
theorem pk_lt {x y : Int32} {A B : Prop} (a b : Nat) (f : a < b → A) (g : b ≤ a → B) (hx : x = nI a := by rfl) (hy : y = nI b := by rfl) (ha : a < 2 ^ 31 := by omega) (hb : b < 2 ^ 31 := by omega) : (x < y → A) ∧ (¬ x < y → B) := by
  subst hx hy
  rw [nI_ltI ha hb]
  exact ⟨f, fun z => g (by omega)⟩
theorem pk_eq {x y : Int32} {A B : Prop} (a b : Nat) (f : a = b → A) (g : a ≠ b → B) (hx : x = nI a := by rfl) (hy : y = nI b := by rfl) (ha : a < 2 ^ 31 := by omega) (hb : b < 2 ^ 31 := by omega) : (x = y → A) ∧ (¬ x = y → B) := by
  subst hx hy
  rw [nI_eq ha hb]
  exact ⟨f, g⟩
theorem pk_in {x : Int32} (n N : Nat) (h : n < N) (hx : x = nI n := by rfl) (hN : N < 2 ^ 31 := by omega) : vp_in x N := by
  subst hx
  exact vp_in_nI h hN
theorem pk_cl {x : Int32} (n : Nat) (hx : x = nI n := by rfl) (h : n < 2 ^ 31 := by omega) : x.toNatClampNeg = n := by
  subst hx
  exact nI_clamp h
theorem pk_lT {n : Nat} (h : n < 2 ^ 63) : (lN n).toInt = (n : Int) := lg_ofNat_toInt h
theorem pk_lLT {a b : Nat} (ha : a < 2 ^ 63) (hb : b < 2 ^ 63) : lN a < lN b ↔ a < b := by
  rw [Int64.lt_iff_toInt_lt, pk_lT ha, pk_lT hb]; omega
theorem pk_lLE {a b : Nat} (ha : a < 2 ^ 63) (hb : b < 2 ^ 63) : lN a ≤ lN b ↔ a ≤ b := by
  rw [Int64.le_iff_toInt_le, pk_lT ha, pk_lT hb]; omega
theorem pk_lEQ {a b : Nat} (ha : a < 2 ^ 63) (hb : b < 2 ^ 63) : lN a = lN b ↔ a = b := by
  rw [← Int64.toInt_inj, pk_lT ha, pk_lT hb]; omega
theorem pk_loop {σ : Type} (W : Nat → Nat → σ → Prop) (I : Nat → σ → Prop) (e i0 : Nat) (s : σ) (hi : i0 ≤ e) (h0 : I i0 s) (hx : ∀ n s, I e s → W (n + 1) e s)
    (hs : ∀ n i s, i < e → I i s → (∀ s', I (i + 1) s' → W n (i + 1) s') → W (n + 1) i s) : ∃ n, W n i0 s :=
  ⟨e + 1, loop_i W I e hx hs (e + 1) i0 s hi (by omega) h0⟩
/-! one bit -/
theorem bb_one : ∀ i, i < 32 → bt 1 i = decide (i = 0) := by decide +kernel
theorem bb_bit {l i : Nat} (hl : l < 32) (hi : i < 32) : bt ((1 : Int32) <<< (nI l &&& 31)) i = decide (i = l) := by
  rw [b_shl l hl 1 hi, bb_one _ (by omega)]
  by_cases h : i = l
  · rw [decide_eq_true h, decide_eq_true (show l ≤ i by omega), decide_eq_true (show i - l = 0 by omega)]; rfl
  · rw [decide_eq_false h]
    by_cases g : l ≤ i
    · rw [decide_eq_false (show ¬ i - l = 0 by omega), Bool.and_false]
    · rw [decide_eq_false g, Bool.false_and]
theorem bb_test (x : Int32) {l : Nat} (hl : l < 32) : (x &&& ((1 : Int32) <<< (nI l &&& 31))) = 0 ↔ ¬ bt x l = true := by
  constructor
  · intro h g
    have e : bt (x &&& ((1 : Int32) <<< (nI l &&& 31))) l = bt 0 l := by rw [h]
    rw [b_and, bb_bit hl hl, b_0, g, decide_eq_true rfl] at e
    exact absurd e (by decide)
  · intro h
    refine b_ext (fun i hi => ?_)
    rw [b_and, bb_bit hl hi, b_0]
    by_cases g : i = l
    · rw [g, Bool.eq_false_iff.mpr h, Bool.false_and]
    · rw [decide_eq_false g, Bool.and_false]
theorem bb_or (x : Int32) {l i : Nat} (hl : l < 32) (hi : i < 32) : bt (x ||| ((1 : Int32) <<< (nI l &&& 31))) i = true ↔ (bt x i = true ∨ i = l) := by
  rw [b_or, bb_bit hl hi, Bool.or_eq_true, decide_eq_true_iff]
theorem bb_and (x y : Int32) (i : Nat) : bt (x &&& y) i = true ↔ (bt x i = true ∧ bt y i = true) := by
  rw [b_and, Bool.and_eq_true]
end BB
end
section
section RR
/-! the core of the relation: which places hold the same block, and its value -/
def rr_C (B T : Nat) (H : Nat → Int32) (S : Nat → Int64) (W V : Nat → Int32) : Prop :=
  (∀ j, j < 288 → ∃ b, b ≤ B ∧ H j = nI b) ∧ (∀ j, j < 288 → ∃ m, m ≤ T ∧ S j = lN m) ∧ (∀ j, j < 288 → (S j = 0 ↔ H j = 0)) ∧ (∀ i j, i < 288 → j < 288 → (S i = S j ↔ H i = H j)) ∧ (∀ j, j < 288 → ¬ H j = 0 → V j = W (H j).toNatClampNeg)
theorem rr_map {B T : Nat} {H H' : Nat → Int32} {S S' : Nat → Int64} {W V V' : Nat → Int32} (C : rr_C B T H S W V)
    (h : ∀ j, j < 288 → (H' j = 0 ∧ S' j = 0) ∨ ∃ i, i < 288 ∧ H' j = H i ∧ S' j = S i ∧ V' j = V i) : rr_C B T H' S' W V' := by
  obtain ⟨c1, c2, c3, c4, c5⟩ := C
  refine ⟨fun j hj => ?_, fun j hj => ?_, fun j hj => ?_, fun i j hi hj => ?_, fun j hj => ?_⟩
  · rcases h j hj with ⟨a, b⟩ | ⟨i, hi, a, b, c⟩
    · exact ⟨0, Nat.zero_le _, a⟩
    · rw [a]; exact c1 i hi
  · rcases h j hj with ⟨a, b⟩ | ⟨i, hi, a, b, c⟩
    · exact ⟨0, Nat.zero_le _, b⟩
    · rw [b]; exact c2 i hi
  · rcases h j hj with ⟨a, b⟩ | ⟨i, hi, a, b, c⟩
    · rw [a, b]; exact ⟨fun _ => rfl, fun _ => rfl⟩
    · rw [a, b]; exact c3 i hi
  · rcases h i hi with ⟨a, b⟩ | ⟨i', hi', a, b, c⟩
    · rcases h j hj with ⟨a', b'⟩ | ⟨j', hj', a', b', c'⟩
      · rw [a, b, a', b']; exact ⟨fun _ => rfl, fun _ => rfl⟩
      · rw [a, b, a', b']
        exact ⟨fun z => ((c3 j' hj').mp z.symm).symm, fun z => ((c3 j' hj').mpr z.symm).symm⟩
    · rcases h j hj with ⟨a', b'⟩ | ⟨j', hj', a', b', c'⟩
      · rw [a, b, a', b']; exact c3 i' hi'
      · rw [a, b, a', b']; exact c4 i' j' hi' hj'
  · intro g
    rcases h j hj with ⟨a, b⟩ | ⟨i, hi, a, b, c⟩
    · exact absurd a g
    · rw [c, a]; exact c5 i hi (by rw [← a]; exact g)
theorem rr_T {B T T' : Nat} {H : Nat → Int32} {S : Nat → Int64} {W V : Nat → Int32} (C : rr_C B T H S W V) (h : T ≤ T') : rr_C B T' H S W V := by
  obtain ⟨c1, c2, c3, c4, c5⟩ := C
  exact ⟨c1, fun j hj => (c2 j hj).elim fun m hm => ⟨m, Nat.le_trans hm.1 h, hm.2⟩, c3, c4, c5⟩
/-- copies, cleared parts, exchanges keep it -/
theorem rr_cp {B T : Nat} {H : Nat → Int32} {S : Nat → Int64} {W V : Nat → Int32} (C : rr_C B T H S W V) {s t c : Nat} (hs : s + c ≤ 288) :
    rr_C B T (aa_cp H s t c) (aa_cp S s t c) W (aa_cp V s t c) := by
  refine rr_map C (fun j hj => Or.inr ?_)
  unfold aa_cp
  by_cases g : t ≤ j ∧ j < t + c
  · exact ⟨s + (j - t), by omega, if_pos g, if_pos g, if_pos g⟩
  · exact ⟨j, hj, if_neg g, if_neg g, if_neg g⟩
theorem rr_cl {B T : Nat} {H : Nat → Int32} {S : Nat → Int64} {W V : Nat → Int32} (C : rr_C B T H S W V) {s c : Nat} :
    rr_C B T (aa_cl 0 H s c) (aa_cl 0 S s c) W V := by
  refine rr_map C (fun j hj => ?_)
  unfold aa_cl
  by_cases g : s ≤ j ∧ j < s + c
  · exact Or.inl ⟨if_pos g, if_pos g⟩
  · exact Or.inr ⟨j, hj, if_neg g, if_neg g, rfl⟩
theorem rr_sw {B T : Nat} {H : Nat → Int32} {S : Nat → Int64} {W V : Nat → Int32} (C : rr_C B T H S W V) {x y c : Nat} (hx : x + c ≤ 288) (hy : y + c ≤ 288) :
    rr_C B T (aa_sw H x y c) (aa_sw S x y c) W (aa_sw V x y c) := by
  refine rr_map C (fun j hj => Or.inr ?_)
  unfold aa_sw
  by_cases g : x ≤ j ∧ j < x + c
  · exact ⟨y + (j - x), by omega, if_pos g, if_pos g, if_pos g⟩
  · by_cases g2 : y ≤ j ∧ j < y + c
    · exact ⟨x + (j - y), by omega, by rw [if_neg g, if_pos g2], by rw [if_neg g, if_pos g2], by rw [if_neg g, if_pos g2]⟩
    · exact ⟨j, hj, by rw [if_neg g, if_neg g2], by rw [if_neg g, if_neg g2], by rw [if_neg g, if_neg g2]⟩
/-- X's count of a set of places: the block numbers from 1 to 24 that one of them holds -/
def rr_has (H : Nat → Int32) (x c : Nat) (v : Nat) : Prop := ∃ i, i < c ∧ H (x + i) = nI v
/-- Y's count: the places whose stamp is not 0, not held by one before it among the c places from x, and with P -/
def rr_fst (S : Nat → Int64) (x : Nat) (P : Int64 → Prop) (i : Nat) : Prop := ¬ S (x + i) = 0 ∧ ¬ (∃ j, j < i ∧ S (x + j) = S (x + i)) ∧ P (S (x + i))
theorem rr_count {B T : Nat} {H : Nat → Int32} {S : Nat → Int64} {W V : Nat → Int32} (C : rr_C B T H S W V) {x c M : Nat} (hB : B < M) (hM : M ≤ 32) (hx : x + c ≤ 288)
    {P : Int64 → Prop} {Q : Nat → Prop} (hP : ∀ i v, i < c → H (x + i) = nI v → v < 32 → ¬ v = 0 → (P (S (x + i)) ↔ Q v)) :
    cc_n (rr_fst S x P) c = cc_n (fun v => v ≠ 0 ∧ rr_has H x c v ∧ Q v) M := by
  obtain ⟨c1, c2, c3, c4, c5⟩ := C
  have key : ∀ i, i < c → H (x + i) = nI (H (x + i)).toNatClampNeg ∧ (H (x + i)).toNatClampNeg ≤ B := by
    intro i hi
    obtain ⟨b, hb, e⟩ := c1 (x + i) (by omega)
    rw [e, nI_clamp (by omega)]
    exact ⟨rfl, hb⟩
  have e := cc_first (fun i => (H (x + i)).toNatClampNeg) Q M c (fun i hi => by have := (key i hi).2; show (H (x + i)).toNatClampNeg < M; omega)
  have e2 : cc_n (rr_fst S x P) c = cc_n (cc_F (fun i => (H (x + i)).toNatClampNeg) Q) c := by
    refine cc_ext c (fun i hi => ?_)
    obtain ⟨k1, k2⟩ := key i hi
    have z : H (x + i) = 0 ↔ (H (x + i)).toNatClampNeg = 0 := by
      constructor
      · intro g; rw [g]; rfl
      · intro g; rw [k1, g]; rfl
    have q : ∀ j, j < i → (S (x + j) = S (x + i) ↔ (H (x + j)).toNatClampNeg = (H (x + i)).toNatClampNeg) := by
      intro j hj
      rw [c4 _ _ (by omega) (by omega)]
      constructor
      · intro g; rw [g]
      · intro g; rw [k1, (key j (by omega)).1, g]
    constructor
    · rintro ⟨a1, a2, a3⟩
      have nz : ¬ (H (x + i)).toNatClampNeg = 0 := fun g => a1 ((c3 _ (by omega)).mpr (z.mpr g))
      exact ⟨nz, fun j hj g => a2 ⟨j, hj, (q j hj).mpr g⟩, (hP i _ hi k1 (by omega) nz).mp a3⟩
    · rintro ⟨a1, a2, a3⟩
      exact ⟨fun g => a1 (z.mp ((c3 _ (by omega)).mp g)), fun ⟨j, hj, g⟩ => a2 j hj ((q j hj).mp g), (hP i _ hi k1 (by omega) a1).mpr a3⟩
  rw [e2, e]
  refine cc_ext M (fun v hv => ⟨?_, ?_⟩)
  · rintro ⟨v0, ⟨i, hi, g⟩, hq⟩
    exact ⟨v0, ⟨i, hi, by rw [(key i hi).1]; exact congrArg nI g⟩, hq⟩
  · rintro ⟨v0, ⟨i, hi, g⟩, hq⟩
    refine ⟨v0, ⟨i, hi, ?_⟩, hq⟩
    show (H (x + i)).toNatClampNeg = v
    rw [g, nI_clamp (by omega)]
/-! write: a place gets a block that nothing else holds -/
def rr_kept (H : Nat → Int32) (t v : Nat) : Prop := v ≠ 0 ∧ ∃ i, i < 288 ∧ ¬ i = t ∧ H i = nI v
theorem rr_put {B B' T : Nat} {H : Nat → Int32} {S : Nat → Int64} {W V : Nat → Int32} (C : rr_C B T H S W V) (hB : B ≤ B') (hB' : B' < 32) {t b : Nat} (b0 : ¬ b = 0) (hb : b ≤ B')
    (hf : ¬ rr_kept H t b) (hT : T + 1 < 2 ^ 31) (x : Int32) : rr_C B' (T + 1) (upd H t (nI b)) (vp_updL S t (lN (T + 1))) (upd W b x) (upd V t x) := by
  obtain ⟨c1, c2, c3, c4, c5⟩ := C
  have n1 : ∀ j, j < 288 → ¬ lN (T + 1) = S j := by
    intro j hj g
    obtain ⟨m, hm, e⟩ := c2 j hj
    rw [e, lN_eq hT (by omega)] at g
    omega
  have n2 : ∀ j, j < 288 → ¬ j = t → ¬ nI b = H j := fun j hj g e => hf ⟨b0, j, hj, g, e.symm⟩
  refine ⟨fun j hj => ?_, fun j hj => ?_, fun j hj => ?_, fun i j hi hj => ?_, fun j hj => ?_⟩
  · by_cases g : j = t
    · rw [g, pk_us]; exact ⟨b, hb, rfl⟩
    · rw [pk_un g]
      obtain ⟨d, hd, e⟩ := c1 j hj
      exact ⟨d, by omega, e⟩
  · by_cases g : j = t
    · rw [g, pk_uLs]; exact ⟨T + 1, by omega, rfl⟩
    · rw [pk_uLn g]
      obtain ⟨d, hd, e⟩ := c2 j hj
      exact ⟨d, by omega, e⟩
  · by_cases g : j = t
    · rw [g, pk_us, pk_uLs]
      have e1 : ¬ lN (T + 1) = 0 := by
        intro z
        have z2 : lN (T + 1) = lN 0 := z
        rw [lN_eq hT (by omega)] at z2
        omega
      have e2 : ¬ nI b = 0 := nI_ne0 (by omega) (by omega)
      exact ⟨fun z => absurd z e1, fun z => absurd z e2⟩
    · rw [pk_un g, pk_uLn g]; exact c3 j hj
  · by_cases g : i = t
    · by_cases g2 : j = t
      · rw [g, g2]; exact ⟨fun _ => rfl, fun _ => rfl⟩
      · rw [g, pk_us, pk_uLs, pk_un g2, pk_uLn g2]
        exact ⟨fun z => absurd z (n1 j hj), fun z => absurd z (n2 j hj g2)⟩
    · by_cases g2 : j = t
      · rw [g2, pk_us, pk_uLs, pk_un g, pk_uLn g]
        exact ⟨fun z => absurd z.symm (n1 i hi), fun z => absurd z.symm (n2 i hi g)⟩
      · rw [pk_un g, pk_un g2, pk_uLn g, pk_uLn g2]; exact c4 i j hi hj
  · by_cases g : j = t
    · rw [g, pk_us, pk_us, nI_clamp (by omega), pk_us]; intro _; rfl
    · rw [pk_un g, pk_un g]
      intro hz
      obtain ⟨d, hd, e⟩ := c1 j hj
      have e2 : ¬ (H j).toNatClampNeg = b := by
        intro z
        rw [e, nI_clamp (by omega)] at z
        exact n2 j hj g (by rw [e, z])
      rw [pk_un e2]
      exact c5 j hj hz
theorem rr_new {B B' T : Nat} {H : Nat → Int32} {S : Nat → Int64} {W V : Nat → Int32} (C : rr_C B T H S W V) (hB : B ≤ B') {t b M : Nat} (ht : t < 288) (b0 : ¬ b = 0) (hb : b ≤ B')
    (hf : ¬ rr_kept H t b) (hT : T + 1 < 2 ^ 31) (hM : B' < M) (hM2 : M ≤ 32) : cc_n (rr_fst (vp_updL S t (lN (T + 1))) 0 (fun _ => True)) 288 = cc_n (rr_kept H t) M + 1 := by
  have D := rr_put C hB (by omega) b0 hb hf hT 0
  rw [rr_count (Q := fun _ => True) D hM hM2 (by omega) (fun _ _ _ _ _ _ => Iff.rfl)]
  refine cc_add hf M (by omega) (fun v hv => ⟨?_, ?_⟩)
  · rintro ⟨v0, ⟨i, hi, e⟩, _⟩
    rw [Nat.zero_add] at e
    by_cases g : i = t
    · rw [g, pk_us, nI_eq (by omega) (by omega)] at e
      exact Or.inr e.symm
    · rw [pk_un g] at e
      exact Or.inl ⟨v0, i, hi, g, e⟩
  · rintro (⟨v0, i, hi, g, e⟩ | g)
    · exact ⟨v0, ⟨i, hi, by rw [Nat.zero_add, pk_un g]; exact e⟩, trivial⟩
    · rw [g]; exact ⟨b0, ⟨t, ht, by rw [Nat.zero_add, pk_us]⟩, trivial⟩
/-- a free block: the count after it is at most B -/
theorem rr_free {B T : Nat} {H : Nat → Int32} {S : Nat → Int64} {W V : Nat → Int32} (C : rr_C B T H S W V) (hB : B ≤ 24) {t b : Nat} (b0 : ¬ b = 0) (hb : b ≤ B)
    (hf : ¬ rr_kept H t b) : cc_n (rr_kept H t) 25 + 1 ≤ B := by
  have e : cc_n (fun v => rr_kept H t v ∨ v = b) 25 = cc_n (rr_kept H t) 25 + 1 := cc_add hf 25 (by omega) (fun v _ => Iff.rfl)
  have e2 : cc_n (fun v => rr_kept H t v ∨ v = b) 25 ≤ cc_n (fun v => v ≠ 0 ∧ v ≤ B) 25 := by
    refine cc_mono 25 (fun v hv => ?_)
    rintro (⟨v0, i, hi, g, e⟩ | g)
    · obtain ⟨d, hd, e3⟩ := C.1 i hi
      rw [e3, nI_eq (by omega) (by omega)] at e
      exact ⟨v0, by omega⟩
    · exact ⟨by omega, by omega⟩
  rw [cc_rg B 24] at e2
  split at e2 <;> omega
/-- no free block: B of them are kept -/
theorem rr_full {B T : Nat} {H : Nat → Int32} {S : Nat → Int64} {W V : Nat → Int32} (C : rr_C B T H S W V) (hB : B ≤ 24) {t : Nat}
    (hf : ∀ v, ¬ v = 0 → v ≤ B → rr_kept H t v) : cc_n (rr_kept H t) 26 = B := by
  have e : cc_n (rr_kept H t) 26 = cc_n (fun v => v ≠ 0 ∧ v ≤ B) 26 := by
    refine cc_ext 26 (fun v hv => ⟨?_, fun z => hf v z.1 z.2⟩)
    rintro ⟨v0, i, hi, g, e⟩
    obtain ⟨d, hd, e3⟩ := C.1 i hi
    rw [e3, nI_eq (by omega) (by omega)] at e
    exact ⟨v0, by omega⟩
  rw [e, cc_rg B 25]
  split <;> omega
end RR
end
section
section XL
variable {bl up nn pn xn : Int32} {hd sn vb : Nat → Int32}
/-! numbers and guards -/
theorem gg_i1 : ¬ (1 : Int32) = 0 := by decide
def gg_out (x : Int32) (n : Nat) : Prop := x < 0 ∨ nI n ≤ x
theorem gg_in {x : Int32} {n : Nat} (hn : n < 2 ^ 31) (h : ¬ gg_out x n) : ∃ j, j < n ∧ x = nI j := by
  rcases pk_ix x hn with a | a | a
  · exact absurd (Or.inl a) h
  · exact absurd (Or.inr a) h
  · exact a
theorem gg_ni {j n : Nat} (h : j < n) (hn : n < 2 ^ 31) : ¬ gg_out (nI j) n := by
  rintro (a | a)
  · exact nI_pos (by omega) a
  · exact nI_ge h hn a
/-- a snapshot's name: 1 or 2 -/
def gg_sn (x : Int32) : Prop := x ≤ 0 ∨ nI 3 ≤ x
theorem gg_le0 {x : Int32} (h : x ≤ 0) : x = 0 ∨ x < 0 := by
  by_cases g : x < 0
  · exact Or.inr g
  · obtain ⟨j, hj, rfl⟩ := nI_of g
    have e : nI j ≤ nI 0 := h
    rw [nI_leI hj (by omega)] at e
    have e2 : j = 0 := by omega
    rw [e2]; exact Or.inl rfl
theorem gg_snIn {x : Int32} (h : ¬ gg_sn x) : ∃ t, 1 ≤ t ∧ t < 3 ∧ x = nI t := by
  have h1 : ¬ gg_out x 3 := by
    rintro (a | a)
    · exact h (Or.inl (Int32.le_of_lt a))
    · exact h (Or.inr a)
  obtain ⟨t, ht, rfl⟩ := gg_in (by omega) h1
  refine ⟨t, ?_, ht, rfl⟩
  rcases Nat.eq_zero_or_pos t with e | e
  · subst e; exact absurd (Or.inl (nI_le (a := 0) (b := 0) (by omega) (by omega))) h
  · exact e
theorem gg_snOut {x : Int32} (h : gg_sn x) : x = 0 ∨ gg_out x 3 := by
  rcases h with a | a
  · rcases gg_le0 a with b | b
    · exact Or.inl b
    · exact Or.inr (Or.inl b)
  · exact Or.inr (Or.inr a)
theorem gg_vb {x : Int32} (h : x = 0 ∨ x = 1) : vp_nar .boolean x = x := by
  rcases h with e | e <;> subst e <;> rfl
theorem gx_vol {P : Int32 → Prop} (x : Int32) (f : gg_out x 2 → P 0) (g : ¬ gg_out x 2 → P 1) : wpX_isVolume P x :=
  br_c (fun a => f (Or.inl a)) (fun a => br_c (fun b => f (Or.inr b)) (fun b => g (fun z => z.elim a b)))
theorem gx_file {P : Int32 → Prop} (x : Int32) (f : gg_out x 4 → P 0) (g : ¬ gg_out x 4 → P 1) : wpX_isFile P x :=
  br_c (fun a => f (Or.inl a)) (fun a => br_c (fun b => f (Or.inr b)) (fun b => g (fun z => z.elim a b)))
theorem gx_place {P : Int32 → Prop} (x : Int32) (f : gg_out x 4 → P 0) (g : ¬ gg_out x 4 → P 1) : wpX_isPlace P x :=
  br_c (fun a => f (Or.inl a)) (fun a => br_c (fun b => f (Or.inr b)) (fun b => g (fun z => z.elim a b)))
theorem gx_tree {P : Int32 → Prop} (x : Int32) (f : gg_out x 3 → P 0) (g : ¬ gg_out x 3 → P 1) : wpX_isTree P x :=
  br_c (fun a => f (Or.inl a)) (fun a => br_c (fun b => f (Or.inr b)) (fun b => g (fun z => z.elim a b)))
theorem gx_snap {P : Int32 → Prop} (x : Int32) (f : gg_sn x → P 0) (g : ¬ gg_sn x → P 1) : wpX_isSnapshotName P x :=
  br_c (fun a => f (Or.inl a)) (fun a => br_c (fun b => f (Or.inr b)) (fun b => g (fun z => z.elim a b)))
theorem gx_v1 {P : Int32 → Prop} {v : Nat} (h : v < 2) (p : P 1) : wpX_isVolume P (nI v) := gx_vol _ (fun a => absurd a (gg_ni h (by omega))) (fun _ => p)
theorem gx_f1 {P : Int32 → Prop} {v : Nat} (h : v < 4) (p : P 1) : wpX_isFile P (nI v) := gx_file _ (fun a => absurd a (gg_ni h (by omega))) (fun _ => p)
theorem gx_p1 {P : Int32 → Prop} {v : Nat} (h : v < 4) (p : P 1) : wpX_isPlace P (nI v) := gx_place _ (fun a => absurd a (gg_ni h (by omega))) (fun _ => p)
theorem gx_t1 {P : Int32 → Prop} {v : Nat} (h : v < 3) (p : P 1) : wpX_isTree P (nI v) := gx_tree _ (fun a => absurd a (gg_ni h (by omega))) (fun _ => p)
theorem gx_s1 {P : Int32 → Prop} {v : Nat} (h0 : 1 ≤ v) (h : v < 3) (p : P 1) : wpX_isSnapshotName P (nI v) :=
  gx_snap _ (fun a => absurd a (fun z => z.elim (nI_nle (by omega) (by omega)) (nI_ge h (by omega)))) (fun _ => p)
/-! where a tree, a file, a snapshot's mark lies -/
theorem gx_ts {P : Int32 → Prop} {v t : Nat} (h : P (nI (48 * v + 16 * t))) : wpX_treeStart P (nI v) (nI t) := by
  have e : ((0 + (nI v * 48)) + (nI t * 16)) = nI (48 * v + 16 * t) := by
    show ((nI 0 + (nI v * nI 48)) + (nI t * nI 16)) = _
    rw [pk_mul, pk_mul, nI_add, nI_add]
    exact congrArg nI (by omega)
  unfold wpX_treeStart
  rw [e]; exact h
theorem gx_fs {P : Int32 → Prop} {v f : Nat} (h : P (nI (48 * v + 4 * f))) : wpX_fileStart P (nI v) (nI f) := by
  unfold wpX_fileStart
  refine gx_ts (t := 0) ?_
  have e : nI (48 * v + 16 * 0) + (nI f * 4) = nI (48 * v + 4 * f) := by
    show nI (48 * v + 16 * 0) + (nI f * nI 4) = _
    rw [pk_mul, nI_add]
    exact congrArg nI (by omega)
  show P (nI (48 * v + 16 * 0) + (nI f * 4))
  rw [e]; exact h
theorem gx_si {P : Int32 → Prop} {v t : Nat} (ht : 1 ≤ t) (h : P (nI (2 * v + (t - 1)))) : wpX_snapshotIndex P (nI v) (nI t) := by
  have e : (((0 + (nI v * 2)) + nI t) - 1) = nI (2 * v + (t - 1)) := by
    show (((nI 0 + (nI v * nI 2)) + nI t) - nI 1) = _
    rw [pk_mul, nI_add, nI_add, pk_sub (by omega)]
    exact congrArg nI (by omega)
  unfold wpX_snapshotIndex
  rw [e]; exact h
theorem gx_ht {P : Int32 → Prop} {v t : Nat} (hv : v < 2) (ht : t < 3) (hy : (t = 0 ∨ ¬ sn (2 * v + (t - 1)) = 0) → P 1) (hn : ¬ t = 0 → sn (2 * v + (t - 1)) = 0 → P 0) :
    wpX_hasTree P (bl, up, nn, pn, xn, hd, sn, vb) (nI v) (nI t) := by
  unfold wpX_hasTree
  by_cases g : t = 0
  · subst g; exact br_t rfl (hy (Or.inl rfl))
  · refine br_f (nI_ne0 (by omega) (by omega)) (gx_si (by omega) ⟨vp_in_nI (by omega) (by omega), ?_⟩)
    rw [nI_clamp (by omega)]
    exact br_c (fun a => hn g a) (fun a => hy (Or.inr a))
theorem gx_mk {P : SX → Prop} {v t : Nat} {x : Int32} (hv : v < 2) (h1 : 1 ≤ t) (ht : t < 3) (hx : x = 0 ∨ x = 1) (h : P (bl, up, nn, pn, xn, hd, upd sn (2 * v + (t - 1)) x, vb)) :
    wpX_markSnapshot P (bl, up, nn, pn, xn, hd, sn, vb) (nI v) (nI t) x := by
  unfold wpX_markSnapshot
  refine gx_si h1 ⟨vp_in_nI (by omega) (by omega), nm_r ?_ h⟩
  rw [nI_clamp (by omega), gg_vb hx]
/-! loops over the places -/
theorem xa_cp {post : SX → Prop} {s t c : Nat} (hs : s + c ≤ 288) (ht : t + c ≤ 288) (ok : aa_ok s t c) (h : post (bl, up, nn, pn, xn, aa_cp hd s t c, sn, vb)) :
    ∀ d i, i + d = c → wX_copyPlaces_3 post (nI s) (nI t) (nI c) bl up nn pn xn (d + 1) (nI i) (aa_cp hd s t i) sn vb := by
  intro d
  induction d with
  | zero =>
    intro i hi
    have e : i = c := by omega
    subst e
    exact br_t (nI_le (Nat.le_refl _) (by omega)) h
  | succ d ih =>
    intro i hi
    have e1 : nI s + nI i = nI (s + i) := nI_add s i
    have e2 : nI t + nI i = nI (t + i) := nI_add t i
    refine br_f (nI_ge (by omega) (by omega)) ⟨?_, ?_, nm_r ?_ (nm_r (nI_1 i) (ih (i + 1) (by omega)))⟩
    · rw [e1]; exact vp_in_nI (by omega) (by omega)
    · rw [e2]; exact vp_in_nI (by omega) (by omega)
    · rw [e1, e2, nI_clamp (by omega), nI_clamp (by omega), aa_uI, aa_cpS hd ok (by omega)]
theorem xp_cp {post : SX → Prop} {s t c : Nat} (hs : s + c ≤ 288) (ht : t + c ≤ 288) (ok : aa_ok s t c) (h : post (bl, up, nn, pn, xn, aa_cp hd s t c, sn, vb)) :
    wpX_copyPlaces post (bl, up, nn, pn, xn, hd, sn, vb) (nI s) (nI t) (nI c) := by
  have e := xa_cp hs ht ok h c 0 (by omega)
  rw [aa_cp0] at e
  exact Exists.intro (c + 1) e
theorem xa_cl {post : SX → Prop} {s c : Nat} (hs : s + c ≤ 288) (h : post (bl, up, nn, pn, xn, aa_cl 0 hd s c, sn, vb)) :
    ∀ d i, i + d = c → wX_clearPlaces_2 post (nI s) (nI c) bl up nn pn xn (d + 1) (nI i) (aa_cl 0 hd s i) sn vb := by
  intro d
  induction d with
  | zero =>
    intro i hi
    have e : i = c := by omega
    subst e
    exact br_t (nI_le (Nat.le_refl _) (by omega)) h
  | succ d ih =>
    intro i hi
    have e1 : nI s + nI i = nI (s + i) := nI_add s i
    refine br_f (nI_ge (by omega) (by omega)) ⟨?_, nm_r ?_ (nm_r (nI_1 i) (ih (i + 1) (by omega)))⟩
    · rw [e1]; exact vp_in_nI (by omega) (by omega)
    · rw [e1, nI_clamp (by omega), aa_uI, aa_clS]
theorem xp_cl {post : SX → Prop} {s c : Nat} (hs : s + c ≤ 288) (h : post (bl, up, nn, pn, xn, aa_cl 0 hd s c, sn, vb)) :
    wpX_clearPlaces post (bl, up, nn, pn, xn, hd, sn, vb) (nI s) (nI c) := by
  have e := xa_cl hs h c 0 (by omega)
  rw [aa_cl0] at e
  exact Exists.intro (c + 1) e
theorem xa_ch {post : Int32 → Prop} {s c : Nat} (hs : s + c ≤ 288) (h : post (nI (cc_n (fun j => ¬ hd (s + j) = 0) c))) :
    ∀ d i, i + d = c → wX_countHeld_5 post (nI s) (nI c) bl up nn pn xn hd sn vb (d + 1) (nI (cc_n (fun j => ¬ hd (s + j) = 0) i)) (nI i) := by
  intro d
  induction d with
  | zero =>
    intro i hi
    have e : i = c := by omega
    subst e
    exact br_t (nI_le (Nat.le_refl _) (by omega)) h
  | succ d ih =>
    intro i hi
    have e1 : nI s + nI i = nI (s + i) := nI_add s i
    have e2 : (nI s + nI i).toNatClampNeg = s + i := by rw [e1, nI_clamp (by omega)]
    have v1 : vp_in (nI s + nI i) 288 := by rw [e1]; exact vp_in_nI (by omega) (by omega)
    have k := ih (i + 1) (by omega)
    by_cases g : hd (s + i) = 0
    · rw [cc_f (p := fun j => ¬ hd (s + j) = 0) (fun z => z g)] at k
      exact br_f (nI_ge (by omega) (by omega)) ⟨v1, br_t (by rw [e2]; exact g) (nm_r (nI_1 i) k)⟩
    · rw [cc_t (p := fun j => ¬ hd (s + j) = 0) g] at k
      exact br_f (nI_ge (by omega) (by omega)) ⟨v1, br_f (by rw [e2]; exact g) (nm_r (nI_1 _) (nm_r (nI_1 i) k))⟩
theorem xp_ch {post : Int32 → Prop} {s c : Nat} (hs : s + c ≤ 288) (h : post (nI (cc_n (fun j => ¬ hd (s + j) = 0) c))) :
    wpX_countHeld post (bl, up, nn, pn, xn, hd, sn, vb) (nI s) (nI c) :=
  Exists.intro (c + 1) (xa_ch hs h c 0 (by omega))
/-! swap's loop -/
theorem xa_sw {post : Int32 → SX → Prop} {x y : Nat} {p q : Int32} (hx : x + 4 ≤ 288) (hy : y + 4 ≤ 288) (ok : aa_ok x y 4)
    (h0 : p = q → post 0 (bl, up, nn, pn, xn, aa_sw hd x y 4, sn, vb)) (h1 : ¬ p = q → post 1 (bl, up, nn, pn, xn, aa_sw hd x y 4, sn, vb)) :
    ∀ d i, i + d = 4 → wX_swap_47 post p q (nI x) (nI y) bl up nn pn xn (d + 1) (nI i) (aa_sw hd x y i) sn vb := by
  intro d
  induction d with
  | zero =>
    intro i hi
    have e : i = 4 := by omega
    subst e
    exact br_t (nI_le (a := 4) (b := 4) (by omega) (by omega)) (br_c h0 h1)
  | succ d ih =>
    intro i hi
    have e1 : nI x + nI i = nI (x + i) := nI_add x i
    have e2 : nI y + nI i = nI (y + i) := nI_add y i
    have c1 : (nI x + nI i).toNatClampNeg = x + i := by rw [e1, nI_clamp (by omega)]
    have c2 : (nI y + nI i).toNatClampNeg = y + i := by rw [e2, nI_clamp (by omega)]
    have v1 : vp_in (nI x + nI i) 288 := by rw [e1]; exact vp_in_nI (by omega) (by omega)
    have v2 : vp_in (nI y + nI i) 288 := by rw [e2]; exact vp_in_nI (by omega) (by omega)
    refine br_f (nI_ge (b := 4) (by omega) (by omega)) ⟨v1, nm_e ⟨v2, v1, nm_e ⟨v2, nm_r ?_ (nm_r (nI_1 i) (ih (i + 1) (by omega)))⟩⟩⟩
    rw [c1, c2, aa_uI, aa_uI, aa_swS hd ok (by omega)]
end XL
end
section
section XS
variable {bl up nn pn xn : Int32} {hd sn vb : Nat → Int32}
/-! sets of blocks by bits -/
theorem xa_bw {post : Int32 → Prop} {z : Int32} (hb : ∀ j, j < 288 → ∃ b, b < 32 ∧ hd j = nI b)
    (h : ∀ x, (∀ v, v < 32 → (bt x v = true ↔ ∃ j, j < 288 ∧ ¬ nI j = z ∧ hd j = nI v)) → post x) :
    ∀ d i x, i + d = 288 → (∀ v, v < 32 → (bt x v = true ↔ ∃ j, j < i ∧ ¬ nI j = z ∧ hd j = nI v)) → wX_blocksInUseWithout_4 post z bl up nn pn xn hd sn vb (d + 1) x (nI i) := by
  intro d
  induction d with
  | zero =>
    intro i x hi hx
    have e : i = 288 := by omega
    subst e
    exact br_t (nI_le (a := 288) (b := 288) (by omega) (by omega)) (h x hx)
  | succ d ih =>
    intro i x hi hx
    have hge : ¬ (288 : Int32) ≤ nI i := nI_ge (b := 288) (by omega) (by omega)
    by_cases g : nI i = z
    · refine br_f hge (br_t g (nm_r (nI_1 i) (ih (i + 1) x (by omega) (fun v hv => ?_))))
      rw [hx v hv]
      constructor
      · rintro ⟨j, hj, a, b⟩
        exact ⟨j, by omega, a, b⟩
      · rintro ⟨j, hj, a, b⟩
        by_cases k : j = i
        · subst k; exact absurd g a
        · exact ⟨j, by omega, a, b⟩
    · obtain ⟨b, hb1, e⟩ := hb i (by omega)
      refine br_f hge (br_f g ⟨vp_in_nI (by omega) (by omega), nm_r (e' := x ||| ((1 : Int32) <<< (nI b &&& 31))) (by rw [nI_clamp (by omega), e]) (nm_r (nI_1 i) (ih (i + 1) _ (by omega) (fun v hv => ?_)))⟩)
      rw [bb_or x hb1 hv, hx v hv]
      constructor
      · rintro (⟨j, hj, a, c⟩ | a)
        · exact ⟨j, by omega, a, c⟩
        · subst a; exact ⟨i, by omega, g, e⟩
      · rintro ⟨j, hj, a, c⟩
        by_cases k : j = i
        · subst k
          rw [e, nI_eq (by omega) (by omega)] at c
          exact Or.inr c.symm
        · exact Or.inl ⟨j, by omega, a, c⟩
theorem xp_bw {post : Int32 → Prop} {z : Int32} (hb : ∀ j, j < 288 → ∃ b, b < 32 ∧ hd j = nI b)
    (h : ∀ x, (∀ v, v < 32 → (bt x v = true ↔ ∃ j, j < 288 ∧ ¬ nI j = z ∧ hd j = nI v)) → post x) :
    wpX_blocksInUseWithout post (bl, up, nn, pn, xn, hd, sn, vb) z :=
  Exists.intro 289 (xa_bw hb h 288 0 0 (by omega) (fun v _ => ⟨fun a => absurd ((b_0 v).symm.trans a) (by decide), fun ⟨j, hj, _⟩ => absurd hj (by omega)⟩))
theorem xa_bt {post : Int32 → Prop} {s : Nat} (hs : s + 16 ≤ 288) (hb : ∀ j, j < 288 → ∃ b, b < 32 ∧ hd j = nI b)
    (h : ∀ x, (∀ v, v < 32 → (bt x v = true ↔ rr_has hd s 16 v)) → post x) :
    ∀ d i x, i + d = 16 → (∀ v, v < 32 → (bt x v = true ↔ rr_has hd s i v)) → wX_blocksOfTree_12 post (nI s) bl up nn pn xn hd sn vb (d + 1) x (nI i) := by
  intro d
  induction d with
  | zero =>
    intro i x hi hx
    have e : i = 16 := by omega
    subst e
    exact br_t (nI_le (a := 16) (b := 16) (by omega) (by omega)) (h x hx)
  | succ d ih =>
    intro i x hi hx
    have hge : ¬ (16 : Int32) ≤ nI i := nI_ge (b := 16) (by omega) (by omega)
    have e1 : nI s + nI i = nI (s + i) := nI_add s i
    obtain ⟨b, hb1, e⟩ := hb (s + i) (by omega)
    refine br_f hge ⟨by rw [e1]; exact vp_in_nI (by omega) (by omega), nm_r (e' := x ||| ((1 : Int32) <<< (nI b &&& 31))) (by rw [e1, nI_clamp (by omega), e]) (nm_r (nI_1 i) (ih (i + 1) _ (by omega) (fun v hv => ?_)))⟩
    rw [bb_or x hb1 hv, hx v hv]
    constructor
    · rintro (⟨j, hj, c⟩ | a)
      · exact ⟨j, by omega, c⟩
      · subst a; exact ⟨i, by omega, e⟩
    · rintro ⟨j, hj, c⟩
      by_cases k : j = i
      · subst k
        rw [e, nI_eq (by omega) (by omega)] at c
        exact Or.inr c.symm
      · exact Or.inl ⟨j, by omega, c⟩
theorem xp_bt {post : Int32 → Prop} {v t : Nat} (hv : v < 2) (ht : t < 3) (hb : ∀ j, j < 288 → ∃ b, b < 32 ∧ hd j = nI b)
    (h : ∀ x, (∀ w, w < 32 → (bt x w = true ↔ rr_has hd (48 * v + 16 * t) 16 w)) → post x) :
    wpX_blocksOfTree post (bl, up, nn, pn, xn, hd, sn, vb) (nI v) (nI t) := by
  unfold wpX_blocksOfTree
  exact gx_ts (Exists.intro 17 (xa_bt (by omega) hb h 16 0 0 (by omega) (fun w _ => ⟨fun a => absurd ((b_0 w).symm.trans a) (by decide), fun ⟨j, hj, _⟩ => absurd hj (by omega)⟩)))
theorem xa_sz {post : Int32 → Prop} {x : Int32} (h : post (nI (cc_n (fun v => v ≠ 0 ∧ bt x v = true) 25))) :
    ∀ d i, i + d = 25 → 1 ≤ i → wX_sizeOf_4 post x (d + 1) (nI (cc_n (fun v => v ≠ 0 ∧ bt x v = true) i)) (nI i) := by
  intro d
  induction d with
  | zero =>
    intro i hi _
    have e : i = 25 := by omega
    subst e
    exact br_t (nI_lt (a := 24) (b := 25) (by omega) (by omega)) h
  | succ d ih =>
    intro i hi h1
    have hn : ¬ (24 : Int32) < nI i := nI_nlt (b := i) (a := 24) (by omega) (by omega)
    have k := ih (i + 1) (by omega) (by omega)
    by_cases g : bt x i = true
    · rw [cc_t (p := fun v => v ≠ 0 ∧ bt x v = true) ⟨by omega, g⟩] at k
      exact br_f hn (br_f (fun z => (bb_test x (by omega)).mp z g) (nm_r (nI_1 _) (nm_r (nI_1 i) k)))
    · rw [cc_f (p := fun v => v ≠ 0 ∧ bt x v = true) (fun z => g z.2)] at k
      exact br_f hn (br_t ((bb_test x (by omega)).mpr g) (nm_r (nI_1 i) k))
theorem xp_sz {post : Int32 → Prop} {x : Int32} (h : post (nI (cc_n (fun v => v ≠ 0 ∧ bt x v = true) 25))) : wpX_sizeOf post x := by
  have e := xa_sz h 24 1 (by omega) (by omega)
  rw [cc_f (p := fun v => v ≠ 0 ∧ bt x v = true) (fun z => z.1 rfl)] at e
  exact Exists.intro 25 e
theorem xa_fb {post : Int32 → Prop} {x : Int32} {B : Nat} (hB : B ≤ 24) (h1 : ∀ b, ¬ b = 0 → b ≤ B → ¬ bt x b = true → post (nI b)) (h2 : (∀ v, ¬ v = 0 → v ≤ B → bt x v = true) → post 0) :
    ∀ d i, i + d = B + 1 → 1 ≤ i → (∀ v, ¬ v = 0 → v < i → bt x v = true) → wX_freeBlock_2 post x (nI B) up nn pn xn hd sn vb (d + 1) (nI i) := by
  intro d
  induction d with
  | zero =>
    intro i hi _ hv
    exact br_t (nI_lt (by omega) (by omega)) (h2 (fun v a b => hv v a (by omega)))
  | succ d ih =>
    intro i hi hi1 hv
    by_cases g : bt x i = true
    · refine br_f (nI_nlt (by omega) (by omega)) (br_f (fun z => (bb_test x (by omega)).mp z g) (nm_r (nI_1 i) (ih (i + 1) (by omega) (by omega) (fun v a b => ?_))))
      by_cases k : v = i
      · rw [k]; exact g
      · exact hv v a (by omega)
    · exact br_f (nI_nlt (by omega) (by omega)) (br_t ((bb_test x (by omega)).mpr g) (h1 i (by omega) (by omega) g))
theorem xp_fb {post : Int32 → Prop} {x : Int32} {B : Nat} (hB : B ≤ 24) (h1 : ∀ b, ¬ b = 0 → b ≤ B → ¬ bt x b = true → post (nI b)) (h2 : (∀ v, ¬ v = 0 → v ≤ B → bt x v = true) → post 0) :
    wpX_freeBlock post (nI B, up, nn, pn, xn, hd, sn, vb) x :=
  Exists.intro (B + 1) (xa_fb hB h1 h2 B 1 (by omega) (by omega) (fun v a b => absurd b (by omega)))
/-- the blocks in use, counted -/
theorem xp_iu {post : Int32 → Prop} (hb : ∀ j, j < 288 → ∃ b, b < 32 ∧ hd j = nI b) (h : post (nI (cc_n (fun v => v ≠ 0 ∧ rr_has hd 0 288 v ∧ True) 25))) :
    wpX_countInUse post (bl, up, nn, pn, xn, hd, sn, vb) := by
  unfold wpX_countInUse
  refine xp_bw hb (fun x hx => xp_sz ?_)
  have e : cc_n (fun v => v ≠ 0 ∧ bt x v = true) 25 = cc_n (fun v => v ≠ 0 ∧ rr_has hd 0 288 v ∧ True) 25 := by
    refine cc_ext 25 (fun v hv => ?_)
    rw [hx v (by omega)]
    constructor
    · rintro ⟨a, j, hj, _, e⟩
      exact ⟨a, ⟨j, hj, by rw [Nat.zero_add]; exact e⟩, trivial⟩
    · rintro ⟨a, ⟨j, hj, e⟩, _⟩
      rw [Nat.zero_add] at e
      refine ⟨a, j, hj, ?_, e⟩
      intro z
      have p := nI_pos (n := j) (by omega)
      rw [z] at p
      exact p (by decide)
  rw [e]
  exact h
end XS
end
section
section YL
variable {nx bk : Int32} {sc : Int64} {sp : Nat → Int64} {vl hs th nu : Nat → Int32}
theorem gy_out {P : Int32 → Prop} (x : Int32) (n : Nat) (f : gg_out x n → P 1) (g : ¬ gg_out x n → P 0) : wpY_out P x (nI n) :=
  br_c (fun a => f (Or.inl a)) (fun a => br_c (fun b => g (fun z => z.elim a (fun c => Int32.not_le.mpr b c))) (fun b => f (Or.inr (Int32.not_lt.mp b))))
theorem gy_1 {P : Int32 → Prop} {v : Nat} (n : Nat) (h : v < n) (hn : n < 2 ^ 31) (p : P 0) : wpY_out P (nI v) (nI n) := gy_out _ n (fun a => absurd a (gg_ni h hn)) (fun _ => p)
theorem gy_sp {P : SY → Prop} {t s : Nat} (ht : t < 288) (hs' : s < 288) (h : P (nx, sc, bk, aa_u sp t (sp s), aa_u vl t (vl s), hs, th, nu)) :
    wpY_setPlace P (nx, sc, bk, sp, vl, hs, th, nu) (nI t) (nI s) := by
  unfold wpY_setPlace
  have v1 : vp_in (nI t) 288 := vp_in_nI ht (by omega)
  have v2 : vp_in (nI s) 288 := vp_in_nI hs' (by omega)
  have c1 : (nI t).toNatClampNeg = t := nI_clamp (by omega)
  have c2 : (nI s).toNatClampNeg = s := nI_clamp (by omega)
  exact ⟨v2, v1, nm_r (by rw [c1, c2]; rfl) ⟨v2, v1, nm_r (by rw [c1, c2]; rfl) h⟩⟩
/-! a state copied, a state cleared -/
theorem ya_c6 {post : SY → Prop} {a b : Nat} (ha : a < 3) (hb : b < 3) (ok : aa_ok (6 * a) (6 * b) 6) (h01 : ∀ j, hs j = 0 ∨ hs j = 1) (t01 : ∀ j, th j = 0 ∨ th j = 1)
    (h : post (nx, sc, bk, sp, vl, aa_cp hs (6 * a) (6 * b) 6, upd th b (th a), upd nu b (nu a))) :
    ∀ d i, i + d = 6 → wY_copyState_60 post (nI a) (nI b) nx sc bk (d + 1) (nI i) sp vl (aa_cp hs (6 * a) (6 * b) i) th nu := by
  have va : vp_in (nI a) 3 := vp_in_nI ha (by omega)
  have vb : vp_in (nI b) 3 := vp_in_nI hb (by omega)
  have ca : (nI a).toNatClampNeg = a := nI_clamp (by omega)
  have cb : (nI b).toNatClampNeg = b := nI_clamp (by omega)
  intro d
  induction d with
  | zero =>
    intro i hi
    have e : i = 6 := by omega
    subst e
    exact br_t (nI_le (a := 6) (b := 6) (by omega) (by omega)) ⟨va, vb, nm_r (by rw [ca, cb, gg_vb (t01 a)]) ⟨va, vb, nm_r (by rw [ca, cb]) h⟩⟩
  | succ d ih =>
    intro i hi
    have e1 : (6 * nI a) + nI i = nI (6 * a + i) := by
      show (nI 6 * nI a) + nI i = _
      rw [pk_mul, nI_add]
    have e2 : (6 * nI b) + nI i = nI (6 * b + i) := by
      show (nI 6 * nI b) + nI i = _
      rw [pk_mul, nI_add]
    have z : aa_cp hs (6 * a) (6 * b) i (6 * a + i) = 0 ∨ aa_cp hs (6 * a) (6 * b) i (6 * a + i) = 1 := by
      rw [aa_cpR hs ok (by omega)]; exact h01 _
    refine br_f (nI_ge (b := 6) (by omega) (by omega)) ⟨?_, ?_, nm_r ?_ (nm_r (nI_1 i) (ih (i + 1) (by omega)))⟩
    · rw [e1]; exact vp_in_nI (by omega) (by omega)
    · rw [e2]; exact vp_in_nI (by omega) (by omega)
    · rw [e1, e2, nI_clamp (by omega), nI_clamp (by omega), gg_vb z, aa_uI, aa_cpS hs ok (by omega)]
theorem ya_c2 {post : SY → Prop} {a b : Nat} (ha : a < 3) (hb : b < 3) (ok : aa_ok (96 * a) (96 * b) 96) (h01 : ∀ j, hs j = 0 ∨ hs j = 1) (t01 : ∀ j, th j = 0 ∨ th j = 1)
    (h : post (nx, sc, bk, aa_cp sp (96 * a) (96 * b) 96, aa_cp vl (96 * a) (96 * b) 96, aa_cp hs (6 * a) (6 * b) 6, upd th b (th a), upd nu b (nu a))) :
    ∀ d i, i + d = 96 → wY_copyState_2 post (nI a) (nI b) nx sc bk (d + 1) (nI i) (aa_cp sp (96 * a) (96 * b) i) (aa_cp vl (96 * a) (96 * b) i) hs th nu := by
  intro d
  induction d with
  | zero =>
    intro i hi
    have e : i = 96 := by omega
    subst e
    have k := ya_c6 ha hb (by unfold aa_ok at ok ⊢; omega) h01 t01 h 6 0 (by omega)
    rw [aa_cp0] at k
    exact br_t (nI_le (a := 96) (b := 96) (by omega) (by omega)) (Exists.intro 7 k)
  | succ d ih =>
    intro i hi
    have e1 : (96 * nI a) + nI i = nI (96 * a + i) := by
      show (nI 96 * nI a) + nI i = _
      rw [pk_mul, nI_add]
    have e2 : (96 * nI b) + nI i = nI (96 * b + i) := by
      show (nI 96 * nI b) + nI i = _
      rw [pk_mul, nI_add]
    have v1 : vp_in ((96 * nI a) + nI i) 288 := by rw [e1]; exact vp_in_nI (by omega) (by omega)
    have v2 : vp_in ((96 * nI b) + nI i) 288 := by rw [e2]; exact vp_in_nI (by omega) (by omega)
    refine br_f (nI_ge (b := 96) (by omega) (by omega)) ⟨v1, v2, nm_r ?_ ⟨v1, v2, nm_r ?_ (nm_r (nI_1 i) (ih (i + 1) (by omega)))⟩⟩
    · rw [e1, e2, nI_clamp (by omega), nI_clamp (by omega), aa_uL, aa_cpS sp ok (by omega)]
    · rw [e1, e2, nI_clamp (by omega), nI_clamp (by omega), aa_uI, aa_cpS vl ok (by omega)]
theorem yp_cs {post : SY → Prop} {a b : Nat} (ha : a < 3) (hb : b < 3) (h01 : ∀ j, hs j = 0 ∨ hs j = 1) (t01 : ∀ j, th j = 0 ∨ th j = 1)
    (h : post (nx, sc, bk, aa_cp sp (96 * a) (96 * b) 96, aa_cp vl (96 * a) (96 * b) 96, aa_cp hs (6 * a) (6 * b) 6, upd th b (th a), upd nu b (nu a))) :
    wpY_copyState post (nx, sc, bk, sp, vl, hs, th, nu) (nI a) (nI b) := by
  have k := ya_c2 ha hb (by unfold aa_ok; omega) h01 t01 h 96 0 (by omega)
  rw [aa_cp0, aa_cp0] at k
  exact Exists.intro 97 k
theorem ya_z6 {post : SY → Prop} {a : Nat} (ha : a < 3) (h : post (nx, sc, bk, sp, vl, aa_cl 0 hs (6 * a) 6, upd th a 0, upd nu a 0)) :
    ∀ d i, i + d = 6 → wY_clearState_34 post (nI a) nx sc bk (d + 1) (nI (6 * a + i)) sp vl (aa_cl 0 hs (6 * a) i) th nu := by
  have va : vp_in (nI a) 3 := vp_in_nI ha (by omega)
  have ca : (nI a).toNatClampNeg = a := nI_clamp (by omega)
  have e1 : (6 * nI a) + 6 = nI (6 * a + 6) := by
    show (nI 6 * nI a) + nI 6 = _
    rw [pk_mul, nI_add]
  intro d
  induction d with
  | zero =>
    intro i hi
    have e : i = 6 := by omega
    subst e
    exact br_t (by rw [e1]; exact nI_le (by omega) (by omega)) ⟨va, nm_r (by rw [ca, gg_vb (Or.inl rfl)]) ⟨va, nm_r (by rw [ca]) h⟩⟩
  | succ d ih =>
    intro i hi
    refine br_f (by rw [e1]; exact nI_ge (by omega) (by omega)) ⟨vp_in_nI (by omega) (by omega), nm_r ?_ (nm_r (nI_1 (6 * a + i)) (ih (i + 1) (by omega)))⟩
    rw [nI_clamp (by omega), gg_vb (Or.inl rfl), aa_uI, aa_clS]
theorem ya_z5 {post : SY → Prop} {a : Nat} (ha : a < 3) (h : post (nx, sc, bk, aa_cl 0 sp (96 * a) 96, vl, aa_cl 0 hs (6 * a) 6, upd th a 0, upd nu a 0)) :
    ∀ d i, i + d = 96 → wY_clearState_5 post (nI a) nx sc bk (d + 1) (nI (96 * a + i)) (aa_cl 0 sp (96 * a) i) vl hs th nu := by
  have e1 : (96 * nI a) + 96 = nI (96 * a + 96) := by
    show (nI 96 * nI a) + nI 96 = _
    rw [pk_mul, nI_add]
  have e2 : 6 * nI a = nI (6 * a + 0) := by
    show nI 6 * nI a = _
    rw [pk_mul]; rfl
  intro d
  induction d with
  | zero =>
    intro i hi
    have e : i = 96 := by omega
    subst e
    have k := ya_z6 ha h 6 0 (by omega)
    rw [aa_cl0] at k
    exact br_t (by rw [e1]; exact nI_le (by omega) (by omega)) (nm_r e2 (Exists.intro 7 k))
  | succ d ih =>
    intro i hi
    refine br_f (by rw [e1]; exact nI_ge (by omega) (by omega)) ⟨vp_in_nI (by omega) (by omega), nm_r ?_ (nm_r (nI_1 (96 * a + i)) (ih (i + 1) (by omega)))⟩
    rw [nI_clamp (by omega), aa_uL, aa_clS]
theorem yp_zs {post : SY → Prop} {a : Nat} (ha : a < 3) (h : post (nx, sc, bk, aa_cl 0 sp (96 * a) 96, vl, aa_cl 0 hs (6 * a) 6, upd th a 0, upd nu a 0)) :
    wpY_clearState post (nx, sc, bk, sp, vl, hs, th, nu) (nI a) := by
  have e2 : 96 * nI a = nI (96 * a + 0) := by
    show nI 96 * nI a = _
    rw [pk_mul]; rfl
  have k := ya_z5 ha h 96 0 (by omega)
  rw [aa_cl0] at k
  unfold wpY_clearState
  exact nm_r e2 (Exists.intro 97 k)
/-! counts -/
theorem ya_fl {post : Int32 → Prop} {s c : Nat} (hs' : s + c ≤ 288) (h : post (nI (cc_n (fun j => ¬ sp (s + j) = 0) c))) :
    ∀ d i, i + d = c → wY_filled_5 post (nI s) (nI c) nx sc bk sp vl hs th nu (d + 1) (nI (cc_n (fun j => ¬ sp (s + j) = 0) i)) (nI (s + i)) := by
  have e1 : nI s + nI c = nI (s + c) := nI_add s c
  intro d
  induction d with
  | zero =>
    intro i hi
    have e : i = c := by omega
    subst e
    exact br_t (by rw [e1]; exact nI_le (by omega) (by omega)) h
  | succ d ih =>
    intro i hi
    have e2 : (nI (s + i)).toNatClampNeg = s + i := nI_clamp (by omega)
    have v1 : vp_in (nI (s + i)) 288 := vp_in_nI (by omega) (by omega)
    have hn : ¬ nI s + nI c ≤ nI (s + i) := by rw [e1]; exact nI_ge (by omega) (by omega)
    have k := ih (i + 1) (by omega)
    by_cases g : sp (s + i) = 0
    · rw [cc_f (p := fun j => ¬ sp (s + j) = 0) (fun z => z g)] at k
      exact br_f hn ⟨v1, br_t (by rw [e2]; exact g) (nm_r (Int32.add_zero _) (nm_r (nI_1 (s + i)) k))⟩
    · rw [cc_t (p := fun j => ¬ sp (s + j) = 0) g] at k
      exact br_f hn ⟨v1, br_f (by rw [e2]; exact g) (nm_r (nI_1 _) (nm_r (nI_1 (s + i)) k))⟩
theorem yp_fl {post : Int32 → Prop} {s c : Nat} (hs' : s + c ≤ 288) (h : post (nI (cc_n (fun j => ¬ sp (s + j) = 0) c))) :
    wpY_filled post (nx, sc, bk, sp, vl, hs, th, nu) (nI s) (nI c) :=
  Exists.intro (c + 1) (ya_fl hs' h c 0 (by omega))
theorem ya_held {post : Int32 → Prop} {x : Int64} {a c : Nat} (he : a + c ≤ 288) (h1 : (∃ j, j < c ∧ sp (a + j) = x) → post 1) (h0 : ¬ (∃ j, j < c ∧ sp (a + j) = x) → post 0) :
    ∀ d i, i + d = c → (∀ j, j < i → ¬ sp (a + j) = x) → wY_heldIn_3 post x (nI (a + c)) nx sc bk sp vl hs th nu (d + 1) (nI (a + i)) := by
  intro d
  induction d with
  | zero =>
    intro i hi hj
    have e : i = c := by omega
    subst e
    exact br_t (nI_le (by omega) (by omega)) (h0 (fun ⟨j, hj1, e⟩ => hj j hj1 e))
  | succ d ih =>
    intro i hi hj
    have e2 : (nI (a + i)).toNatClampNeg = a + i := nI_clamp (by omega)
    have v1 : vp_in (nI (a + i)) 288 := vp_in_nI (by omega) (by omega)
    by_cases g : sp (a + i) = x
    · exact br_f (nI_ge (by omega) (by omega)) ⟨v1, br_t (by rw [e2]; exact g) (h1 ⟨i, by omega, g⟩)⟩
    · refine br_f (nI_ge (by omega) (by omega)) ⟨v1, br_f (by rw [e2]; exact g) (nm_r (nI_1 (a + i)) (ih (i + 1) (by omega) (fun j hj1 => ?_)))⟩
      by_cases k : j = i
      · rw [k]; exact g
      · exact hj j (by omega)
theorem yp_hi {post : Int32 → Prop} {x : Int64} {a b c : Nat} (hb : b = a + c) (he : a + c ≤ 288) (h1 : (∃ j, j < c ∧ sp (a + j) = x) → post 1) (h0 : ¬ (∃ j, j < c ∧ sp (a + j) = x) → post 0) :
    wpY_heldIn post (nx, sc, bk, sp, vl, hs, th, nu) x (nI a) (nI b) := by
  subst hb
  exact Exists.intro (c + 1) (ya_held he h1 h0 c 0 (by omega) (fun j hj => absurd hj (by omega)))
theorem ya_iu {post : Int32 → Prop} (h : post (nI (cc_n (rr_fst sp 0 (fun _ => True)) 288))) :
    ∀ d i, i + d = 288 → wY_inUse_4 post nx sc bk sp vl hs th nu (d + 1) (nI (cc_n (rr_fst sp 0 (fun _ => True)) i)) (nI i) := by
  intro d
  induction d with
  | zero =>
    intro i hi
    have e : i = 288 := by omega
    subst e
    exact br_t (nI_le (a := 288) (b := 288) (by omega) (by omega)) h
  | succ d ih =>
    intro i hi
    have e2 : (nI i).toNatClampNeg = i := nI_clamp (by omega)
    have v1 : vp_in (nI i) 288 := vp_in_nI (by omega) (by omega)
    have hn : ¬ (288 : Int32) ≤ nI i := nI_ge (b := 288) (by omega) (by omega)
    have k := ih (i + 1) (by omega)
    have ez : 0 + i = i := by omega
    by_cases g : sp i = 0
    · rw [cc_f (p := rr_fst sp 0 (fun _ => True)) (fun z => z.1 (by rw [ez]; exact g))] at k
      exact br_f hn ⟨v1, br_t (by rw [e2]; exact g) (nm_r (nI_1 i) k)⟩
    · refine br_f hn ⟨v1, br_f (by rw [e2]; exact g) ⟨v1, ?_⟩⟩
      rw [e2]
      refine yp_hi (a := 0) (c := i) (by omega) (by omega) (fun a => ?_) (fun a => ?_)
      · rw [cc_f (p := rr_fst sp 0 (fun _ => True)) (fun z => z.2.1 (by rw [ez]; exact a))] at k
        exact br_f gg_i1 (nm_r (nI_1 i) k)
      · rw [cc_t (p := rr_fst sp 0 (fun _ => True)) ⟨by rw [ez]; exact g, by rw [ez]; exact a, trivial⟩] at k
        exact br_t rfl (nm_r (nI_1 _) (nm_r (nI_1 i) k))
theorem yp_iu {post : Int32 → Prop} (h : post (nI (cc_n (rr_fst sp 0 (fun _ => True)) 288))) : wpY_inUse post (nx, sc, bk, sp, vl, hs, th, nu) :=
  Exists.intro 289 (ya_iu h 288 0 (by omega))
end YL
end
section
section XM
variable {bl up nn pn xn : Int32} {hd sn vb : Nat → Int32}
/-! a state copied, a state cleared -/
theorem xa_cs {post : SX → Prop} {a b : Nat} (ha : a < 3) (hb : b < 3) (ok : aa_ok (4 * a) (4 * b) 4) (h01 : ∀ j, sn j = 0 ∨ sn j = 1)
    (h : post (bl, up, nn, pn, xn, hd, aa_cp sn (4 * a) (4 * b) 4, vb)) :
    ∀ d i, i + d = 4 → wX_copyState_16 post (nI a) (nI b) bl up nn pn xn (d + 1) (nI i) hd (aa_cp sn (4 * a) (4 * b) i) vb := by
  intro d
  induction d with
  | zero =>
    intro i hi
    have e : i = 4 := by omega
    subst e
    exact br_t (nI_le (a := 4) (b := 4) (by omega) (by omega)) h
  | succ d ih =>
    intro i hi
    have e1 : (nI a * 4) + nI i = nI (4 * a + i) := by
      show (nI a * nI 4) + nI i = _
      rw [pk_mul, nI_add]
      exact congrArg nI (by omega)
    have e2 : (nI b * 4) + nI i = nI (4 * b + i) := by
      show (nI b * nI 4) + nI i = _
      rw [pk_mul, nI_add]
      exact congrArg nI (by omega)
    have z : aa_cp sn (4 * a) (4 * b) i (4 * a + i) = 0 ∨ aa_cp sn (4 * a) (4 * b) i (4 * a + i) = 1 := by
      rw [aa_cpR sn ok (by omega)]; exact h01 _
    refine br_f (nI_ge (b := 4) (by omega) (by omega)) ⟨?_, ?_, nm_r ?_ (nm_r (nI_1 i) (ih (i + 1) (by omega)))⟩
    · rw [e1]; exact vp_in_nI (by omega) (by omega)
    · rw [e2]; exact vp_in_nI (by omega) (by omega)
    · rw [e1, e2, nI_clamp (by omega), nI_clamp (by omega), gg_vb z, aa_uI, aa_cpS sn ok (by omega)]
theorem gx_m96 (a : Nat) : nI a * 96 = nI (96 * a) := by
  show nI a * nI 96 = _
  rw [pk_mul, Nat.mul_comm]
theorem xp_cs {post : SX → Prop} {a b : Nat} (ha : a < 3) (hb : b < 3) (h01 : ∀ j, sn j = 0 ∨ sn j = 1)
    (h : post (bl, up, nn, pn, xn, aa_cp hd (96 * a) (96 * b) 96, aa_cp sn (4 * a) (4 * b) 4, vb)) :
    wpX_copyState post (bl, up, nn, pn, xn, hd, sn, vb) (nI a) (nI b) := by
  unfold wpX_copyState
  have k := xa_cs (bl := bl) (up := up) (nn := nn) (pn := pn) (xn := xn) (hd := aa_cp hd (96 * a) (96 * b) 96) (vb := vb) ha hb (by unfold aa_ok; omega) h01 h 4 0 (by omega)
  rw [aa_cp0 sn] at k
  rw [gx_m96, gx_m96]
  exact xp_cp (c := 96) (by omega) (by omega) (by unfold aa_ok; omega) (Exists.intro 5 k)
theorem xa_zs {post : SX → Prop} {a : Nat} (ha : a < 3) (h : post (bl, up, nn, pn, xn, hd, aa_cl 0 sn (4 * a) 4, vb)) :
    ∀ d i, i + d = 4 → wX_clearState_12 post (nI a) bl up nn pn xn (d + 1) (nI i) hd (aa_cl 0 sn (4 * a) i) vb := by
  intro d
  induction d with
  | zero =>
    intro i hi
    have e : i = 4 := by omega
    subst e
    exact br_t (nI_le (a := 4) (b := 4) (by omega) (by omega)) h
  | succ d ih =>
    intro i hi
    have e1 : (nI a * 4) + nI i = nI (4 * a + i) := by
      show (nI a * nI 4) + nI i = _
      rw [pk_mul, nI_add]
      exact congrArg nI (by omega)
    refine br_f (nI_ge (b := 4) (by omega) (by omega)) ⟨?_, nm_r ?_ (nm_r (nI_1 i) (ih (i + 1) (by omega)))⟩
    · rw [e1]; exact vp_in_nI (by omega) (by omega)
    · rw [e1, nI_clamp (by omega), gg_vb (Or.inl rfl), aa_uI, aa_clS]
theorem xp_zs {post : SX → Prop} {a : Nat} (ha : a < 3) (h : post (bl, up, nn, pn, xn, aa_cl 0 hd (96 * a) 96, aa_cl 0 sn (4 * a) 4, vb)) :
    wpX_clearState post (bl, up, nn, pn, xn, hd, sn, vb) (nI a) := by
  unfold wpX_clearState
  have k := xa_zs (bl := bl) (up := up) (nn := nn) (pn := pn) (xn := xn) (hd := aa_cl 0 hd (96 * a) 96) (vb := vb) ha h 4 0 (by omega)
  rw [aa_cl0 0 sn] at k
  rw [gx_m96]
  exact xp_cl (c := 96) (by omega) (Exists.intro 5 k)
theorem xp_gd {post : SX → Prop} (h : post (bl, 0, nn, pn, xn, aa_cl 0 hd (96 * 0) 96, aa_cl 0 sn (4 * 0) 4, vb)) : wpX_goDown post (bl, up, nn, pn, xn, hd, sn, vb) := by
  unfold wpX_goDown
  exact xp_zs (a := 0) (by omega) h
/-! the methods: refused -/
theorem xn_write {post : Int32 → SX → Prop} {p0 p1 p2 p3 : Int32} (h : gg_out p0 2 ∨ gg_out p1 4 ∨ gg_out p2 4 ∨ up = 0) (hp : post (-1) (bl, up, nn, pn, xn, hd, sn, vb)) :
    wpX_write post (bl, up, nn, pn, xn, hd, sn, vb) p0 p1 p2 p3 := by
  unfold wpX_write
  exact gx_vol _ (fun _ => br_t rfl hp) (fun a => br_f gg_i1 (gx_file _ (fun _ => br_t rfl hp) (fun b => br_f gg_i1 (gx_place _ (fun _ => br_t rfl hp) (fun c => br_f gg_i1 (br_c (fun _ => hp) (fun d => absurd h (fun z => z.elim a (fun z => z.elim b (fun z => z.elim c d))))))))))
theorem xn_cut {post : Int32 → SX → Prop} {p0 p1 p2 : Int32} (h : gg_out p0 2 ∨ gg_out p1 4 ∨ gg_out p2 5 ∨ up = 0) (hp : post (-1) (bl, up, nn, pn, xn, hd, sn, vb)) :
    wpX_cut post (bl, up, nn, pn, xn, hd, sn, vb) p0 p1 p2 := by
  unfold wpX_cut
  exact gx_vol _ (fun _ => br_t rfl hp) (fun a => br_f gg_i1 (gx_file _ (fun _ => br_t rfl hp) (fun b => br_f gg_i1 (br_c (fun _ => hp) (fun c1 => br_c (fun _ => hp) (fun c2 => br_c (fun _ => hp) (fun d => absurd h (fun z => z.elim a (fun z => z.elim b (fun z => z.elim (fun z => z.elim c1 (fun z => c2 (Int32.lt_of_lt_of_le (show (4 : Int32) < nI 5 from by decide) z))) d))))))))))
theorem xn_copy {post : Int32 → SX → Prop} {p0 p1 p2 : Int32} (h : gg_out p0 2 ∨ gg_out p1 4 ∨ gg_out p2 4 ∨ up = 0) (hp : post (-1) (bl, up, nn, pn, xn, hd, sn, vb)) :
    wpX_copy post (bl, up, nn, pn, xn, hd, sn, vb) p0 p1 p2 := by
  unfold wpX_copy
  exact gx_vol _ (fun _ => br_t rfl hp) (fun a => br_f gg_i1 (gx_file _ (fun _ => br_t rfl hp) (fun b => br_f gg_i1 (gx_file _ (fun _ => br_t rfl hp) (fun c => br_f gg_i1 (br_c (fun _ => hp) (fun d => absurd h (fun z => z.elim a (fun z => z.elim b (fun z => z.elim c d))))))))))
theorem xn_swap {post : Int32 → SX → Prop} {p0 p1 p2 : Int32} (h : gg_out p0 2 ∨ gg_out p1 4 ∨ gg_out p2 4 ∨ up = 0) (hp : post (-1) (bl, up, nn, pn, xn, hd, sn, vb)) :
    wpX_swap post (bl, up, nn, pn, xn, hd, sn, vb) p0 p1 p2 := by
  unfold wpX_swap
  exact gx_vol _ (fun _ => br_t rfl hp) (fun a => br_f gg_i1 (gx_file _ (fun _ => br_t rfl hp) (fun b => br_f gg_i1 (gx_file _ (fun _ => br_t rfl hp) (fun c => br_f gg_i1 (br_c (fun _ => hp) (fun d => absurd h (fun z => z.elim a (fun z => z.elim b (fun z => z.elim c d))))))))))
theorem xn_move {post : Int32 → SX → Prop} {p0 p1 : Int32} (h : gg_out p0 2 ∨ gg_out p1 4 ∨ up = 0) (hp : post (-1) (bl, up, nn, pn, xn, hd, sn, vb)) :
    wpX_move post (bl, up, nn, pn, xn, hd, sn, vb) p0 p1 := by
  unfold wpX_move
  exact gx_vol _ (fun _ => br_t rfl hp) (fun a => br_f gg_i1 (gx_file _ (fun _ => br_t rfl hp) (fun b => br_f gg_i1 (br_c (fun _ => hp) (fun d => absurd h (fun z => z.elim a (fun z => z.elim b d)))))))
theorem xn_snapshot {post : Int32 → SX → Prop} {p0 p1 : Int32} (h : gg_out p0 2 ∨ gg_sn p1 ∨ up = 0) (hp : post (-1) (bl, up, nn, pn, xn, hd, sn, vb)) :
    wpX_snapshot post (bl, up, nn, pn, xn, hd, sn, vb) p0 p1 := by
  unfold wpX_snapshot
  exact gx_vol _ (fun _ => br_t rfl hp) (fun a => br_f gg_i1 (gx_snap _ (fun _ => br_t rfl hp) (fun b => br_f gg_i1 (br_c (fun _ => hp) (fun d => absurd h (fun z => z.elim a (fun z => z.elim b d)))))))
theorem xn_drop {post : Int32 → SX → Prop} {p0 p1 : Int32} (h : gg_out p0 2 ∨ gg_sn p1 ∨ up = 0) (hp : post (-1) (bl, up, nn, pn, xn, hd, sn, vb)) :
    wpX_drop post (bl, up, nn, pn, xn, hd, sn, vb) p0 p1 := by
  unfold wpX_drop
  exact gx_vol _ (fun _ => br_t rfl hp) (fun a => br_f gg_i1 (gx_snap _ (fun _ => br_t rfl hp) (fun b => br_f gg_i1 (br_c (fun _ => hp) (fun d => absurd h (fun z => z.elim a (fun z => z.elim b d)))))))
theorem xn_revert {post : Int32 → SX → Prop} {p0 p1 : Int32} (h : gg_out p0 2 ∨ gg_sn p1 ∨ up = 0) (hp : post (-1) (bl, up, nn, pn, xn, hd, sn, vb)) :
    wpX_revert post (bl, up, nn, pn, xn, hd, sn, vb) p0 p1 := by
  unfold wpX_revert
  exact gx_vol _ (fun _ => br_t rfl hp) (fun a => br_f gg_i1 (gx_snap _ (fun _ => br_t rfl hp) (fun b => br_f gg_i1 (br_c (fun _ => hp) (fun d => absurd h (fun z => z.elim a (fun z => z.elim b d)))))))
theorem xn_read {post : Int64 → Prop} {p0 p1 p2 p3 : Int32} (h : gg_out p0 2 ∨ gg_out p1 3 ∨ gg_out p2 4 ∨ gg_out p3 4 ∨ up = 0) (hp : post 4294967297) :
    wpX_read post (bl, up, nn, pn, xn, hd, sn, vb) p0 p1 p2 p3 := by
  unfold wpX_read
  exact gx_vol _ (fun _ => br_t rfl hp) (fun a => br_f gg_i1 (gx_tree _ (fun _ => br_t rfl hp) (fun b => br_f gg_i1 (gx_file _ (fun _ => br_t rfl hp) (fun c => br_f gg_i1 (gx_place _ (fun _ => br_t rfl hp) (fun d => br_f gg_i1 (br_c (fun _ => hp) (fun f => absurd h (fun z => z.elim a (fun z => z.elim b (fun z => z.elim c (fun z => z.elim d f)))))))))))))
theorem xn_shared {post : Int32 → Prop} {p0 p1 p2 : Int32} (h : gg_out p0 2 ∨ gg_out p1 3 ∨ gg_out p2 3 ∨ up = 0) (hp : post (-1)) :
    wpX_shared post (bl, up, nn, pn, xn, hd, sn, vb) p0 p1 p2 := by
  unfold wpX_shared
  exact gx_vol _ (fun _ => br_t rfl hp) (fun a => br_f gg_i1 (gx_tree _ (fun _ => br_t rfl hp) (fun b => br_f gg_i1 (gx_tree _ (fun _ => br_t rfl hp) (fun c => br_f gg_i1 (br_c (fun _ => hp) (fun d => absurd h (fun z => z.elim a (fun z => z.elim b (fun z => z.elim c d))))))))))
end XM
end
section
section XV
variable {bl up nn pn xn : Int32} {hd sn vb : Nat → Int32}
/-! the methods: arguments within, UP -/
theorem xv_write {post : Int32 → SX → Prop} {v f p B : Nat} {x : Int32} (hv : v < 2) (hf : f < 4) (hp : p < 4) (hup : ¬ up = 0) (hB : B ≤ 24) (hb : ∀ j, j < 288 → ∃ b, b < 32 ∧ hd j = nI b)
    (h1 : ∀ b, ¬ b = 0 → b ≤ B → ¬ rr_kept hd (48 * v + 4 * f + p) b → post (nI (cc_n (rr_kept hd (48 * v + 4 * f + p)) 25 + 1)) (nI B, up, nn, pn, xn, upd hd (48 * v + 4 * f + p) (nI b), sn, upd vb b x))
    (h2 : (∀ w, ¬ w = 0 → w ≤ B → rr_kept hd (48 * v + 4 * f + p) w) → post (-4) (nI B, up, nn, pn, xn, hd, sn, vb)) :
    wpX_write post (nI B, up, nn, pn, xn, hd, sn, vb) (nI v) (nI f) (nI p) x := by
  unfold wpX_write
  refine gx_v1 hv (br_f gg_i1 (gx_f1 hf (br_f gg_i1 (gx_p1 hp (br_f gg_i1 (br_f hup (gx_fs (nm_r (nI_add _ _) (xp_bw hb (fun s hs => ?_))))))))))
  have key : ∀ w, w < 32 → ¬ w = 0 → (bt s w = true ↔ rr_kept hd (48 * v + 4 * f + p) w) := by
    intro w hw w0
    rw [hs w hw]
    constructor
    · rintro ⟨j, hj, a, e⟩
      exact ⟨w0, j, hj, fun z => a (by rw [z]), e⟩
    · rintro ⟨_, j, hj, a, e⟩
      exact ⟨j, hj, fun z => a ((nI_eq (by omega) (by omega)).mp z), e⟩
  refine xp_fb hB (fun b b0 hbB hfb => ?_) (fun hall => ?_)
  · have hk : ¬ rr_kept hd (48 * v + 4 * f + p) b := fun z => hfb ((key b (by omega) b0).mpr z)
    have c1 : (nI (48 * v + 4 * f + p)).toNatClampNeg = 48 * v + 4 * f + p := nI_clamp (by omega)
    have c2 : (nI b).toNatClampNeg = b := nI_clamp (by omega)
    refine br_f (nI_ne0 (by omega) (by omega)) ⟨vp_in_nI (by omega) (by omega), nm_r (by rw [c1]) ⟨vp_in_nI (by omega) (by omega), nm_r (by rw [c2]) (xp_sz ?_)⟩⟩
    have e : cc_n (fun w => w ≠ 0 ∧ bt (s ||| ((1 : Int32) <<< (nI b &&& 31))) w = true) 25 = cc_n (rr_kept hd (48 * v + 4 * f + p)) 25 + 1 := by
      refine cc_add hk 25 (by omega) (fun w hw => ?_)
      rw [bb_or s (by omega) (by omega)]
      constructor
      · rintro ⟨w0, a | a⟩
        · exact Or.inl ((key w (by omega) w0).mp a)
        · exact Or.inr a
      · rintro (a | a)
        · exact ⟨a.1, Or.inl ((key w (by omega) a.1).mpr a)⟩
        · exact ⟨by omega, Or.inr a⟩
    rw [e]
    exact h1 b b0 hbB hk
  · exact br_t rfl (h2 (fun w w0 hw => (key w (by omega) w0).mp (hall w w0 hw)))
theorem xv_cut {post : Int32 → SX → Prop} {v f l : Nat} (hv : v < 2) (hf : f < 4) (hl : l < 5) (hup : ¬ up = 0)
    (h : post (nI (cc_n (fun j => ¬ hd (48 * v + 4 * f + l + j) = 0) (4 - l))) (bl, up, nn, pn, xn, aa_cl 0 hd (48 * v + 4 * f + l) (4 - l), sn, vb)) :
    wpX_cut post (bl, up, nn, pn, xn, hd, sn, vb) (nI v) (nI f) (nI l) := by
  unfold wpX_cut
  refine gx_v1 hv (br_f gg_i1 (gx_f1 hf (br_f gg_i1 (br_f (nI_pos (by omega)) (br_f (nI_nlt (b := l) (a := 4) (by omega) (by omega)) (br_f hup (gx_fs (nm_r (pk_sub (a := 4) (b := l) (by omega)) ?_))))))))
  rw [nI_add]
  exact xp_ch (by omega) (xp_cl (by omega) h)
theorem xv_copy {post : Int32 → SX → Prop} {v a b : Nat} (hv : v < 2) (ha : a < 4) (hb : b < 4) (hup : ¬ up = 0)
    (h : post (nI (cc_n (fun j => ¬ aa_cp hd (48 * v + 4 * a) (48 * v + 4 * b) 4 (48 * v + 4 * b + j) = 0) 4)) (bl, up, nn, pn, xn, aa_cp hd (48 * v + 4 * a) (48 * v + 4 * b) 4, sn, vb)) :
    wpX_copy post (bl, up, nn, pn, xn, hd, sn, vb) (nI v) (nI a) (nI b) := by
  unfold wpX_copy
  refine gx_v1 hv (br_f gg_i1 (gx_f1 ha (br_f gg_i1 (gx_f1 hb (br_f gg_i1 (br_f hup (gx_fs (gx_fs ?_))))))))
  exact xp_cp (c := 4) (by omega) (by omega) (by unfold aa_ok; omega) (xp_ch (c := 4) (by omega) h)
theorem xv_swap {post : Int32 → SX → Prop} {v a b : Nat} (hv : v < 2) (ha : a < 4) (hb : b < 4) (hup : ¬ up = 0)
    (h0 : a = b → post 0 (bl, up, nn, pn, xn, aa_sw hd (48 * v + 4 * a) (48 * v + 4 * b) 4, sn, vb)) (h1 : ¬ a = b → post 1 (bl, up, nn, pn, xn, aa_sw hd (48 * v + 4 * a) (48 * v + 4 * b) 4, sn, vb)) :
    wpX_swap post (bl, up, nn, pn, xn, hd, sn, vb) (nI v) (nI a) (nI b) := by
  unfold wpX_swap
  refine gx_v1 hv (br_f gg_i1 (gx_f1 ha (br_f gg_i1 (gx_f1 hb (br_f gg_i1 (br_f hup (gx_fs (gx_fs ?_))))))))
  have k := xa_sw (post := post) (bl := bl) (up := up) (nn := nn) (pn := pn) (xn := xn) (hd := hd) (sn := sn) (vb := vb) (x := 48 * v + 4 * a) (y := 48 * v + 4 * b) (p := nI a) (q := nI b) (by omega) (by omega) (by unfold aa_ok; omega)
    (fun e => h0 ((nI_eq (by omega) (by omega)).mp e)) (fun e => h1 (fun z => e (by rw [z]))) 4 0 (by omega)
  rw [aa_sw0] at k
  exact Exists.intro 5 k
theorem xv_move {post : Int32 → SX → Prop} {v f : Nat} (hv : v < 2) (hf : f < 4) (hup : ¬ up = 0)
    (h : post (nI (cc_n (fun j => ¬ aa_cl 0 (aa_cp hd (48 * v + 4 * f) (48 * (1 - v) + 4 * f) 4) (48 * v + 4 * f) 4 (48 * (1 - v) + 4 * f + j) = 0) 4)) (bl, up, nn, pn, xn, aa_cl 0 (aa_cp hd (48 * v + 4 * f) (48 * (1 - v) + 4 * f) 4) (48 * v + 4 * f) 4, sn, vb)) :
    wpX_move post (bl, up, nn, pn, xn, hd, sn, vb) (nI v) (nI f) := by
  unfold wpX_move
  have e : (1 : Int32) - nI v = nI (1 - v) := pk_sub (a := 1) (b := v) (by omega)
  rw [e]
  refine gx_v1 hv (br_f gg_i1 (gx_f1 hf (br_f gg_i1 (br_f hup (gx_fs (gx_fs ?_))))))
  exact xp_cp (c := 4) (by omega) (by omega) (by unfold aa_ok; omega) (xp_cl (c := 4) (by omega) (xp_ch (c := 4) (by omega) h))
theorem xv_snapshot {post : Int32 → SX → Prop} {v t : Nat} (hv : v < 2) (h1 : 1 ≤ t) (ht : t < 3) (hup : ¬ up = 0)
    (hy : ¬ sn (2 * v + (t - 1)) = 0 → post (-3) (bl, up, nn, pn, xn, hd, sn, vb))
    (hn : sn (2 * v + (t - 1)) = 0 → post (nI (cc_n (fun j => ¬ aa_cp hd (48 * v + 16 * 0) (48 * v + 16 * t) 16 (48 * v + 16 * t + j) = 0) 16)) (bl, up, nn, pn, xn, aa_cp hd (48 * v + 16 * 0) (48 * v + 16 * t) 16, upd sn (2 * v + (t - 1)) 1, vb)) :
    wpX_snapshot post (bl, up, nn, pn, xn, hd, sn, vb) (nI v) (nI t) := by
  unfold wpX_snapshot
  refine gx_v1 hv (br_f gg_i1 (gx_s1 h1 ht (br_f gg_i1 (br_f hup (gx_ht hv ht (fun z => br_f gg_i1 (hy ?_)) (fun _ z => br_t rfl (gx_ts (t := 0) (gx_ts ?_))))))))
  · rcases z with z | z
    · omega
    · exact z
  · exact xp_cp (c := 16) (by omega) (by omega) (by unfold aa_ok; omega) (gx_mk hv h1 ht (Or.inr rfl) (xp_ch (c := 16) (by omega) (hn z)))
theorem xv_drop {post : Int32 → SX → Prop} {v t : Nat} (hv : v < 2) (h1 : 1 ≤ t) (ht : t < 3) (hup : ¬ up = 0) (hb : ∀ j, j < 288 → ∃ b, b < 32 ∧ aa_cl 0 hd (48 * v + 16 * t) 16 j = nI b)
    (hn : sn (2 * v + (t - 1)) = 0 → post (-2) (bl, up, nn, pn, xn, hd, sn, vb))
    (hy : ¬ sn (2 * v + (t - 1)) = 0 → post (nI (cc_n (fun w => w ≠ 0 ∧ rr_has (aa_cl 0 hd (48 * v + 16 * t) 16) 0 288 w ∧ True) 25)) (bl, up, nn, pn, xn, aa_cl 0 hd (48 * v + 16 * t) 16, upd sn (2 * v + (t - 1)) 0, vb)) :
    wpX_drop post (bl, up, nn, pn, xn, hd, sn, vb) (nI v) (nI t) := by
  unfold wpX_drop
  refine gx_v1 hv (br_f gg_i1 (gx_s1 h1 ht (br_f gg_i1 (br_f hup (gx_ht hv ht (fun z => br_f gg_i1 (gx_ts ?_)) (fun _ z => br_t rfl (hn z)))))))
  have z2 : ¬ sn (2 * v + (t - 1)) = 0 := by
    rcases z with z | z
    · omega
    · exact z
  exact xp_cl (c := 16) (by omega) (gx_mk hv h1 ht (Or.inl rfl) (xp_iu hb (hy z2)))
theorem xv_revert {post : Int32 → SX → Prop} {v t : Nat} (hv : v < 2) (h1 : 1 ≤ t) (ht : t < 3) (hup : ¬ up = 0) (hb : ∀ j, j < 288 → ∃ b, b < 32 ∧ aa_cp hd (48 * v + 16 * t) (48 * v + 16 * 0) 16 j = nI b)
    (hn : sn (2 * v + (t - 1)) = 0 → post (-2) (bl, up, nn, pn, xn, hd, sn, vb))
    (hy : ¬ sn (2 * v + (t - 1)) = 0 → post (nI (cc_n (fun w => w ≠ 0 ∧ rr_has (aa_cp hd (48 * v + 16 * t) (48 * v + 16 * 0) 16) 0 288 w ∧ True) 25)) (bl, up, nn, pn, xn, aa_cp hd (48 * v + 16 * t) (48 * v + 16 * 0) 16, sn, vb)) :
    wpX_revert post (bl, up, nn, pn, xn, hd, sn, vb) (nI v) (nI t) := by
  unfold wpX_revert
  refine gx_v1 hv (br_f gg_i1 (gx_s1 h1 ht (br_f gg_i1 (br_f hup (gx_ht hv ht (fun z => br_f gg_i1 (gx_ts (gx_ts (t := 0) ?_))) (fun _ z => br_t rfl (hn z)))))))
  have z2 : ¬ sn (2 * v + (t - 1)) = 0 := by
    rcases z with z | z
    · omega
    · exact z
  exact xp_cp (c := 16) (by omega) (by omega) (by unfold aa_ok; omega) (xp_iu hb (hy z2))
theorem xv_read {post : Int64 → Prop} {v t f p : Nat} (hv : v < 2) (ht : t < 3) (hf : f < 4) (hp : p < 4) (hup : ¬ up = 0) (hb : ∀ j, j < 288 → ∃ b, b < 25 ∧ hd j = nI b)
    (hn : ¬ t = 0 → sn (2 * v + (t - 1)) = 0 → post 4294967297)
    (h0 : (t = 0 ∨ ¬ sn (2 * v + (t - 1)) = 0) → hd (48 * v + 16 * t + 4 * f + p) = 0 → post 4294967296)
    (hy : (t = 0 ∨ ¬ sn (2 * v + (t - 1)) = 0) → ¬ hd (48 * v + 16 * t + 4 * f + p) = 0 → post (vb (hd (48 * v + 16 * t + 4 * f + p)).toNatClampNeg).toInt64) :
    wpX_read post (bl, up, nn, pn, xn, hd, sn, vb) (nI v) (nI t) (nI f) (nI p) := by
  unfold wpX_read
  refine gx_v1 hv (br_f gg_i1 (gx_t1 ht (br_f gg_i1 (gx_f1 hf (br_f gg_i1 (gx_p1 hp (br_f gg_i1 (br_f hup (gx_ht hv ht (fun z => br_f gg_i1 (gx_ts ?_)) (fun z0 z => br_t rfl (hn z0 z)))))))))))
  have e : (nI (48 * v + 16 * t) + (nI f * 4)) + nI p = nI (48 * v + 16 * t + 4 * f + p) := by
    show (nI (48 * v + 16 * t) + (nI f * nI 4)) + nI p = _
    rw [pk_mul, nI_add, nI_add]
    exact congrArg nI (by omega)
  rw [e, nI_clamp (by omega)]
  obtain ⟨b, hb1, eb⟩ := hb (48 * v + 16 * t + 4 * f + p) (by omega)
  exact ⟨vp_in_nI (by omega) (by omega), nm_e (br_c (fun a => h0 z a) (fun a => ⟨by rw [eb]; exact vp_in_nI hb1 (by omega), hy z a⟩))⟩
theorem xv_shared {post : Int32 → Prop} {v a b : Nat} (hv : v < 2) (ha : a < 3) (hb : b < 3) (hup : ¬ up = 0) (hh : ∀ j, j < 288 → ∃ b, b < 32 ∧ hd j = nI b)
    (hn : ((¬ a = 0 ∧ sn (2 * v + (a - 1)) = 0) ∨ (¬ b = 0 ∧ sn (2 * v + (b - 1)) = 0)) → post (-2))
    (hy : (a = 0 ∨ ¬ sn (2 * v + (a - 1)) = 0) → (b = 0 ∨ ¬ sn (2 * v + (b - 1)) = 0) → post (nI (cc_n (fun w => w ≠ 0 ∧ rr_has hd (48 * v + 16 * a) 16 w ∧ rr_has hd (48 * v + 16 * b) 16 w) 25))) :
    wpX_shared post (bl, up, nn, pn, xn, hd, sn, vb) (nI v) (nI a) (nI b) := by
  unfold wpX_shared
  refine gx_v1 hv (br_f gg_i1 (gx_t1 ha (br_f gg_i1 (gx_t1 hb (br_f gg_i1 (br_f hup (gx_ht hv ha (fun z => br_f gg_i1 (gx_ht hv hb (fun y => br_f gg_i1 ?_) (fun y0 y => br_t rfl (hn (Or.inr ⟨y0, y⟩))))) (fun z0 z => br_t rfl (hn (Or.inl ⟨z0, z⟩))))))))))
  refine xp_bt hv ha hh (fun s hs => xp_bt hv hb hh (fun s' hs' => xp_sz ?_))
  have e : cc_n (fun w => w ≠ 0 ∧ bt (s &&& s') w = true) 25 = cc_n (fun w => w ≠ 0 ∧ rr_has hd (48 * v + 16 * a) 16 w ∧ rr_has hd (48 * v + 16 * b) 16 w) 25 := by
    refine cc_ext 25 (fun w hw => ?_)
    rw [bb_and, hs w (by omega), hs' w (by omega)]
  rw [e]
  exact hy z y
end XV
end
section
section YM
variable {nx bk : Int32} {sc : Int64} {sp : Nat → Int64} {vl hs th nu : Nat → Int32}
/-! the methods: refused -/
theorem yn_write {post : Int32 → SY → Prop} {p0 p1 p2 p3 : Int32} (h : gg_out p0 2 ∨ gg_out p1 4 ∨ gg_out p2 4 ∨ th 0 = 0) (hp : post (-1) (nx, sc, bk, sp, vl, hs, th, nu)) :
    wpY_write post (nx, sc, bk, sp, vl, hs, th, nu) p0 p1 p2 p3 := by
  unfold wpY_write
  exact gy_out _ 2 (fun _ => br_f gg_i1 hp) (fun a => br_t rfl (gy_out _ 4 (fun _ => br_f gg_i1 hp) (fun b => br_t rfl (gy_out _ 4 (fun _ => br_f gg_i1 hp) (fun c => br_t rfl (br_c (fun _ => hp) (fun d => absurd h (fun z => z.elim a (fun z => z.elim b (fun z => z.elim c d))))))))))
theorem yn_cut {post : Int32 → SY → Prop} {p0 p1 p2 : Int32} (h : gg_out p0 2 ∨ gg_out p1 4 ∨ gg_out p2 5 ∨ th 0 = 0) (hp : post (-1) (nx, sc, bk, sp, vl, hs, th, nu)) :
    wpY_cut post (nx, sc, bk, sp, vl, hs, th, nu) p0 p1 p2 := by
  unfold wpY_cut
  exact gy_out _ 2 (fun _ => br_f gg_i1 hp) (fun a => br_t rfl (gy_out _ 4 (fun _ => br_f gg_i1 hp) (fun b => br_t rfl (gy_out _ 5 (fun _ => br_f gg_i1 hp) (fun c => br_t rfl (br_c (fun _ => hp) (fun d => absurd h (fun z => z.elim a (fun z => z.elim b (fun z => z.elim c d))))))))))
theorem yn_copy {post : Int32 → SY → Prop} {p0 p1 p2 : Int32} (h : gg_out p0 2 ∨ gg_out p1 4 ∨ gg_out p2 4 ∨ th 0 = 0) (hp : post (-1) (nx, sc, bk, sp, vl, hs, th, nu)) :
    wpY_copy post (nx, sc, bk, sp, vl, hs, th, nu) p0 p1 p2 := by
  unfold wpY_copy
  exact gy_out _ 2 (fun _ => br_f gg_i1 hp) (fun a => br_t rfl (gy_out _ 4 (fun _ => br_f gg_i1 hp) (fun b => br_t rfl (gy_out _ 4 (fun _ => br_f gg_i1 hp) (fun c => br_t rfl (br_c (fun _ => hp) (fun d => absurd h (fun z => z.elim a (fun z => z.elim b (fun z => z.elim c d))))))))))
theorem yn_swap {post : Int32 → SY → Prop} {p0 p1 p2 : Int32} (h : gg_out p0 2 ∨ gg_out p1 4 ∨ gg_out p2 4 ∨ th 0 = 0) (hp : post (-1) (nx, sc, bk, sp, vl, hs, th, nu)) :
    wpY_swap post (nx, sc, bk, sp, vl, hs, th, nu) p0 p1 p2 := by
  unfold wpY_swap
  exact gy_out _ 2 (fun _ => br_f gg_i1 hp) (fun a => br_t rfl (gy_out _ 4 (fun _ => br_f gg_i1 hp) (fun b => br_t rfl (gy_out _ 4 (fun _ => br_f gg_i1 hp) (fun c => br_t rfl (br_c (fun _ => hp) (fun d => absurd h (fun z => z.elim a (fun z => z.elim b (fun z => z.elim c d))))))))))
theorem yn_move {post : Int32 → SY → Prop} {p0 p1 : Int32} (h : gg_out p0 2 ∨ gg_out p1 4 ∨ th 0 = 0) (hp : post (-1) (nx, sc, bk, sp, vl, hs, th, nu)) :
    wpY_move post (nx, sc, bk, sp, vl, hs, th, nu) p0 p1 := by
  unfold wpY_move
  exact gy_out _ 2 (fun _ => br_f gg_i1 hp) (fun a => br_t rfl (gy_out _ 4 (fun _ => br_f gg_i1 hp) (fun b => br_t rfl (br_c (fun _ => hp) (fun d => absurd h (fun z => z.elim a (fun z => z.elim b d)))))))
theorem yn_snapshot {post : Int32 → SY → Prop} {p0 p1 : Int32} (h : gg_out p0 2 ∨ gg_sn p1 ∨ th 0 = 0) (hp : post (-1) (nx, sc, bk, sp, vl, hs, th, nu)) :
    wpY_snapshot post (nx, sc, bk, sp, vl, hs, th, nu) p0 p1 := by
  unfold wpY_snapshot
  exact gy_out _ 2 (fun _ => br_f gg_i1 hp) (fun a => br_t rfl (br_c (fun _ => hp) (fun b0 => gy_out _ 3 (fun _ => br_f gg_i1 hp) (fun b => br_t rfl (br_c (fun _ => hp) (fun d => absurd h (fun z => z.elim a (fun z => z.elim (fun z => (gg_snOut z).elim b0 b) d))))))))
theorem yn_drop {post : Int32 → SY → Prop} {p0 p1 : Int32} (h : gg_out p0 2 ∨ gg_sn p1 ∨ th 0 = 0) (hp : post (-1) (nx, sc, bk, sp, vl, hs, th, nu)) :
    wpY_drop post (nx, sc, bk, sp, vl, hs, th, nu) p0 p1 := by
  unfold wpY_drop
  exact gy_out _ 2 (fun _ => br_f gg_i1 hp) (fun a => br_t rfl (br_c (fun _ => hp) (fun b0 => gy_out _ 3 (fun _ => br_f gg_i1 hp) (fun b => br_t rfl (br_c (fun _ => hp) (fun d => absurd h (fun z => z.elim a (fun z => z.elim (fun z => (gg_snOut z).elim b0 b) d))))))))
theorem yn_revert {post : Int32 → SY → Prop} {p0 p1 : Int32} (h : gg_out p0 2 ∨ gg_sn p1 ∨ th 0 = 0) (hp : post (-1) (nx, sc, bk, sp, vl, hs, th, nu)) :
    wpY_revert post (nx, sc, bk, sp, vl, hs, th, nu) p0 p1 := by
  unfold wpY_revert
  exact gy_out _ 2 (fun _ => br_f gg_i1 hp) (fun a => br_t rfl (br_c (fun _ => hp) (fun b0 => gy_out _ 3 (fun _ => br_f gg_i1 hp) (fun b => br_t rfl (br_c (fun _ => hp) (fun d => absurd h (fun z => z.elim a (fun z => z.elim (fun z => (gg_snOut z).elim b0 b) d))))))))
theorem yn_read {post : Int64 → Prop} {p0 p1 p2 p3 : Int32} (h : gg_out p0 2 ∨ gg_out p1 3 ∨ gg_out p2 4 ∨ gg_out p3 4 ∨ th 0 = 0) (hp : post 4294967297) :
    wpY_read post (nx, sc, bk, sp, vl, hs, th, nu) p0 p1 p2 p3 := by
  unfold wpY_read
  exact gy_out _ 2 (fun _ => br_f gg_i1 hp) (fun a => br_t rfl (gy_out _ 3 (fun _ => br_f gg_i1 hp) (fun b => br_t rfl (gy_out _ 4 (fun _ => br_f gg_i1 hp) (fun c => br_t rfl (gy_out _ 4 (fun _ => br_f gg_i1 hp) (fun d => br_t rfl (br_c (fun _ => hp) (fun f => absurd h (fun z => z.elim a (fun z => z.elim b (fun z => z.elim c (fun z => z.elim d f)))))))))))))
theorem yn_shared {post : Int32 → Prop} {p0 p1 p2 : Int32} (h : gg_out p0 2 ∨ gg_out p1 3 ∨ gg_out p2 3 ∨ th 0 = 0) (hp : post (-1)) :
    wpY_shared post (nx, sc, bk, sp, vl, hs, th, nu) p0 p1 p2 := by
  unfold wpY_shared
  exact gy_out _ 2 (fun _ => br_f gg_i1 hp) (fun a => br_t rfl (gy_out _ 3 (fun _ => br_f gg_i1 hp) (fun b => br_t rfl (gy_out _ 3 (fun _ => br_f gg_i1 hp) (fun c => br_t rfl (br_c (fun _ => hp) (fun d => absurd h (fun z => z.elim a (fun z => z.elim b (fun z => z.elim c d))))))))))
end YM
end
section
section YV
variable {nx bk : Int32} {sc : Int64} {sp : Nat → Int64} {vl hs th nu : Nat → Int32}
/-! the methods: arguments within, UP -/
theorem gy_i1 (v f : Nat) : (48 * nI v) + (4 * nI f) = nI (48 * v + 4 * f) := by
  show (nI 48 * nI v) + (nI 4 * nI f) = _
  rw [pk_mul, pk_mul, nI_add]
theorem gy_i2 (v t : Nat) : (48 * nI v) + (16 * nI t) = nI (48 * v + 16 * t) := by
  show (nI 48 * nI v) + (nI 16 * nI t) = _
  rw [pk_mul, pk_mul, nI_add]
theorem gy_i3 (v t : Nat) : (3 * nI v) + nI t = nI (3 * v + t) := by
  show (nI 3 * nI v) + nI t = _
  rw [pk_mul, nI_add]
theorem gy_48 (v : Nat) : 48 * nI v = nI (48 * v) := by
  show nI 48 * nI v = _
  rw [pk_mul]
theorem yv_write {post : Int32 → SY → Prop} {v f p B T : Nat} {x : Int32} (hv : v < 2) (hf : f < 4) (hp : p < 4) (hup : ¬ th 0 = 0) (hB : B ≤ 24)
    (h1 : cc_n (rr_fst (vp_updL sp (48 * v + 4 * f + p) (lN (T + 1))) 0 (fun _ => True)) 288 ≤ B →
      post (nI (cc_n (rr_fst (vp_updL sp (48 * v + 4 * f + p) (lN (T + 1))) 0 (fun _ => True)) 288)) (nx, lN (T + 1), nI B, vp_updL sp (48 * v + 4 * f + p) (lN (T + 1)), upd vl (48 * v + 4 * f + p) x, hs, th, nu))
    (h2 : B < cc_n (rr_fst (vp_updL sp (48 * v + 4 * f + p) (lN (T + 1))) 0 (fun _ => True)) 288 →
      post (-4) (nx, lN (T + 1), nI B, vp_updL (vp_updL sp (48 * v + 4 * f + p) (lN (T + 1))) (48 * v + 4 * f + p) (sp (48 * v + 4 * f + p)), upd (upd vl (48 * v + 4 * f + p) x) (48 * v + 4 * f + p) (vl (48 * v + 4 * f + p)), hs, th, nu)) :
    wpY_write post (nx, lN T, nI B, sp, vl, hs, th, nu) (nI v) (nI f) (nI p) x := by
  unfold wpY_write
  have v1 : vp_in (nI (48 * v + 4 * f + p)) 288 := vp_in_nI (by omega) (by omega)
  have c1 : (nI (48 * v + 4 * f + p)).toNatClampNeg = 48 * v + 4 * f + p := nI_clamp (by omega)
  have hc := cc_le (p := rr_fst (vp_updL sp (48 * v + 4 * f + p) (lN (T + 1))) 0 (fun _ => True)) 288
  refine gy_1 2 hv (by omega) (br_t rfl (gy_1 4 hf (by omega) (br_t rfl (gy_1 4 hp (by omega) (br_t rfl (br_f hup (nm_r (e' := nI (48 * v + 4 * f + p)) (by rw [gy_i1, nI_add]) ?_)))))))
  refine ⟨v1, nm_r (by rw [c1]) ⟨v1, nm_r (by rw [c1]) (nm_r (lN_1 T) ⟨v1, nm_r (by rw [c1]) ⟨v1, nm_r (by rw [c1]) (yp_iu ?_)⟩⟩)⟩⟩
  by_cases g : cc_n (rr_fst (vp_updL sp (48 * v + 4 * f + p) (lN (T + 1))) 0 (fun _ => True)) 288 ≤ B
  · exact br_f (nI_nlt (by omega) (by omega)) (h1 g)
  · exact br_t (nI_lt (by omega) (by omega)) ⟨v1, nm_r (by rw [c1]) ⟨v1, nm_r (by rw [c1]) (h2 (by omega))⟩⟩
theorem ya_cut {post : Int32 → SY → Prop} {c l : Nat} {r : Int32} (hc : c + 4 ≤ 288) (hl : l < 5) (h : post r (nx, sc, bk, aa_cl 0 sp (c + l) (4 - l), vl, hs, th, nu)) :
    ∀ d i, i + d = 4 - l → wY_cut_61 post (nI c) r nx sc bk (d + 1) (nI (l + i)) (aa_cl 0 sp (c + l) i) vl hs th nu := by
  intro d
  induction d with
  | zero =>
    intro i hi
    have e : i = 4 - l := by omega
    subst e
    exact br_t (nI_le (a := 4) (by omega) (by omega)) h
  | succ d ih =>
    intro i hi
    have e1 : nI c + nI (l + i) = nI (c + l + i) := by rw [nI_add]; exact congrArg nI (by omega)
    refine br_f (nI_ge (b := 4) (by omega) (by omega)) ⟨?_, nm_r ?_ (nm_r (nI_1 (l + i)) (ih (i + 1) (by omega)))⟩
    · rw [e1]; exact vp_in_nI (by omega) (by omega)
    · rw [e1, nI_clamp (by omega), aa_uL, aa_clS]
theorem yv_cut {post : Int32 → SY → Prop} {v f l : Nat} (hv : v < 2) (hf : f < 4) (hl : l < 5) (hup : ¬ th 0 = 0)
    (h : post (nI (cc_n (fun j => ¬ sp (48 * v + 4 * f + l + j) = 0) (4 - l))) (nx, sc, bk, aa_cl 0 sp (48 * v + 4 * f + l) (4 - l), vl, hs, th, nu)) :
    wpY_cut post (nx, sc, bk, sp, vl, hs, th, nu) (nI v) (nI f) (nI l) := by
  unfold wpY_cut
  refine gy_1 2 hv (by omega) (br_t rfl (gy_1 4 hf (by omega) (br_t rfl (gy_1 5 hl (by omega) (br_t rfl (br_f hup (nm_r (gy_i1 v f) ?_)))))))
  have e4 : (4 : Int32) - nI l = nI (4 - l) := pk_sub (a := 4) (b := l) (by omega)
  rw [nI_add, e4]
  have k := ya_cut (c := 48 * v + 4 * f) (by omega) hl h (4 - l) 0 (by omega)
  rw [aa_cl0] at k
  exact yp_fl (by omega) (Exists.intro (4 - l + 1) k)
theorem ya_copy {post : Int32 → SY → Prop} {c a b : Nat} (ha : c + 4 * a + 4 ≤ 288) (hb : c + 4 * b + 4 ≤ 288) (ok : aa_ok (c + 4 * a) (c + 4 * b) 4)
    (h : post (nI (cc_n (fun j => ¬ aa_cp sp (c + 4 * a) (c + 4 * b) 4 (c + 4 * b + j) = 0) 4)) (nx, sc, bk, aa_cp sp (c + 4 * a) (c + 4 * b) 4, aa_cp vl (c + 4 * a) (c + 4 * b) 4, hs, th, nu)) :
    ∀ d i, i + d = 4 → wY_copy_44 post (nI a) (nI b) (nI c) (d + 1) (nI i) nx sc bk (aa_cp sp (c + 4 * a) (c + 4 * b) i) (aa_cp vl (c + 4 * a) (c + 4 * b) i) hs th nu := by
  have ea : nI c + (4 * nI a) = nI (c + 4 * a) := by
    show nI c + (nI 4 * nI a) = _
    rw [pk_mul, nI_add]
  have eb : nI c + (4 * nI b) = nI (c + 4 * b) := by
    show nI c + (nI 4 * nI b) = _
    rw [pk_mul, nI_add]
  intro d
  induction d with
  | zero =>
    intro i hi
    have e : i = 4 := by omega
    subst e
    refine br_t (nI_le (a := 4) (b := 4) (by omega) (by omega)) ?_
    rw [eb]
    exact yp_fl (c := 4) (by omega) h
  | succ d ih =>
    intro i hi
    refine br_f (nI_ge (b := 4) (by omega) (by omega)) ?_
    rw [ea, eb, nI_add, nI_add]
    refine gy_sp (by omega) (by omega) (nm_r (nI_1 i) ?_)
    rw [aa_cpS sp ok (by omega), aa_cpS vl ok (by omega)]
    exact ih (i + 1) (by omega)
theorem yv_copy {post : Int32 → SY → Prop} {v a b : Nat} (hv : v < 2) (ha : a < 4) (hb : b < 4) (hup : ¬ th 0 = 0)
    (h : post (nI (cc_n (fun j => ¬ aa_cp sp (48 * v + 4 * a) (48 * v + 4 * b) 4 (48 * v + 4 * b + j) = 0) 4)) (nx, sc, bk, aa_cp sp (48 * v + 4 * a) (48 * v + 4 * b) 4, aa_cp vl (48 * v + 4 * a) (48 * v + 4 * b) 4, hs, th, nu)) :
    wpY_copy post (nx, sc, bk, sp, vl, hs, th, nu) (nI v) (nI a) (nI b) := by
  unfold wpY_copy
  have k := ya_copy (c := 48 * v) (by omega) (by omega) (by unfold aa_ok; omega) h 4 0 (by omega)
  rw [aa_cp0, aa_cp0] at k
  exact gy_1 2 hv (by omega) (br_t rfl (gy_1 4 ha (by omega) (br_t rfl (gy_1 4 hb (by omega) (br_t rfl (br_f hup (nm_r (gy_48 v) (Exists.intro 5 k))))))))
theorem ya_swap {post : Int32 → SY → Prop} {v a b : Nat} (hv : v < 2) (ha : a < 4) (hb : b < 4)
    (h0 : a = b → post 0 (nx, sc, bk, aa_sw sp (48 * v + 4 * a) (48 * v + 4 * b) 4, aa_sw vl (48 * v + 4 * a) (48 * v + 4 * b) 4, hs, th, nu))
    (h1 : ¬ a = b → post 1 (nx, sc, bk, aa_sw sp (48 * v + 4 * a) (48 * v + 4 * b) 4, aa_sw vl (48 * v + 4 * a) (48 * v + 4 * b) 4, hs, th, nu)) :
    ∀ d i, i + d = 4 → wY_swap_38 post (nI v) (nI a) (nI b) (d + 1) (nI i) nx sc bk (aa_sw sp (48 * v + 4 * a) (48 * v + 4 * b) i) (aa_sw vl (48 * v + 4 * a) (48 * v + 4 * b) i) hs th nu := by
  have ok : aa_ok (48 * v + 4 * a) (48 * v + 4 * b) 4 := by unfold aa_ok; omega
  intro d
  induction d with
  | zero =>
    intro i hi
    have e : i = 4 := by omega
    subst e
    exact br_t (nI_le (a := 4) (b := 4) (by omega) (by omega)) (br_c (fun e => h0 ((nI_eq (by omega) (by omega)).mp e)) (fun e => h1 (fun z => e (by rw [z]))))
  | succ d ih =>
    intro i hi
    have e1 : ((48 * nI v) + (4 * nI a)) + nI i = nI (48 * v + 4 * a + i) := by rw [gy_i1, nI_add]
    have e2 : ((48 * nI v) + (4 * nI b)) + nI i = nI (48 * v + 4 * b + i) := by rw [gy_i1, nI_add]
    have c1 : (nI (48 * v + 4 * a + i)).toNatClampNeg = 48 * v + 4 * a + i := nI_clamp (by omega)
    have c2 : (nI (48 * v + 4 * b + i)).toNatClampNeg = 48 * v + 4 * b + i := nI_clamp (by omega)
    have v1 : vp_in (nI (48 * v + 4 * a + i)) 288 := vp_in_nI (by omega) (by omega)
    have v2 : vp_in (nI (48 * v + 4 * b + i)) 288 := vp_in_nI (by omega) (by omega)
    refine br_f (nI_ge (b := 4) (by omega) (by omega)) (nm_r e1 (nm_r e2 ⟨v1, nm_r (by rw [c1]) ⟨v1, nm_r (by rw [c1]) (gy_sp (by omega) (by omega) ⟨v2, nm_r ?_ ⟨v2, nm_r ?_ (nm_r (nI_1 i) (ih (i + 1) (by omega)))⟩⟩)⟩⟩))
    · rw [c2, aa_uL, aa_swS sp ok (by omega)]
    · rw [c2, aa_uI, aa_swS vl ok (by omega)]
theorem yv_swap {post : Int32 → SY → Prop} {v a b : Nat} (hv : v < 2) (ha : a < 4) (hb : b < 4) (hup : ¬ th 0 = 0)
    (h0 : a = b → post 0 (nx, sc, bk, aa_sw sp (48 * v + 4 * a) (48 * v + 4 * b) 4, aa_sw vl (48 * v + 4 * a) (48 * v + 4 * b) 4, hs, th, nu))
    (h1 : ¬ a = b → post 1 (nx, sc, bk, aa_sw sp (48 * v + 4 * a) (48 * v + 4 * b) 4, aa_sw vl (48 * v + 4 * a) (48 * v + 4 * b) 4, hs, th, nu)) :
    wpY_swap post (nx, sc, bk, sp, vl, hs, th, nu) (nI v) (nI a) (nI b) := by
  unfold wpY_swap
  have k := ya_swap hv ha hb h0 h1 4 0 (by omega)
  rw [aa_sw0, aa_sw0] at k
  exact gy_1 2 hv (by omega) (br_t rfl (gy_1 4 ha (by omega) (br_t rfl (gy_1 4 hb (by omega) (br_t rfl (br_f hup (Exists.intro 5 k)))))))
theorem ya_move {post : Int32 → SY → Prop} {s t : Nat} (hs' : s + 4 ≤ 288) (ht : t + 4 ≤ 288) (ok : s + 4 ≤ t ∨ t + 4 ≤ s)
    (h : post (nI (cc_n (fun j => ¬ aa_cl 0 (aa_cp sp s t 4) s 4 (t + j) = 0) 4)) (nx, sc, bk, aa_cl 0 (aa_cp sp s t 4) s 4, aa_cp vl s t 4, hs, th, nu)) :
    ∀ d i, i + d = 4 → wY_move_51 post (nI s) (nI t) (d + 1) (nI i) nx sc bk (aa_cl 0 (aa_cp sp s t i) s i) (aa_cp vl s t i) hs th nu := by
  intro d
  induction d with
  | zero =>
    intro i hi
    have e : i = 4 := by omega
    subst e
    exact br_t (nI_le (a := 4) (b := 4) (by omega) (by omega)) (yp_fl (c := 4) (by omega) h)
  | succ d ih =>
    intro i hi
    refine br_f (nI_ge (b := 4) (by omega) (by omega)) ?_
    rw [nI_add, nI_add]
    refine gy_sp (by omega) (by omega) ⟨vp_in_nI (by omega) (by omega), nm_r (e' := aa_cl 0 (aa_cp sp s t (i + 1)) s (i + 1)) ?_ (nm_r (nI_1 i) ?_)⟩
    · rw [nI_clamp (by omega), aa_uL, aa_mvS 0 sp ok (by omega)]
    · rw [aa_cpS vl (c := 4) (by unfold aa_ok; omega) (by omega)]
      exact ih (i + 1) (by omega)
theorem yv_move {post : Int32 → SY → Prop} {v f : Nat} (hv : v < 2) (hf : f < 4) (hup : ¬ th 0 = 0)
    (h : post (nI (cc_n (fun j => ¬ aa_cl 0 (aa_cp sp (48 * v + 4 * f) (48 * (1 - v) + 4 * f) 4) (48 * v + 4 * f) 4 (48 * (1 - v) + 4 * f + j) = 0) 4)) (nx, sc, bk, aa_cl 0 (aa_cp sp (48 * v + 4 * f) (48 * (1 - v) + 4 * f) 4) (48 * v + 4 * f) 4, aa_cp vl (48 * v + 4 * f) (48 * (1 - v) + 4 * f) 4, hs, th, nu)) :
    wpY_move post (nx, sc, bk, sp, vl, hs, th, nu) (nI v) (nI f) := by
  unfold wpY_move
  have e : (1 : Int32) - nI v = nI (1 - v) := pk_sub (a := 1) (b := v) (by omega)
  rw [e]
  have k := ya_move (by omega) (by omega) (by omega) h 4 0 (by omega)
  rw [aa_cp0, aa_cp0, aa_cl0] at k
  exact gy_1 2 hv (by omega) (br_t rfl (gy_1 4 hf (by omega) (br_t rfl (br_f hup (nm_r (gy_i1 v f) (nm_r (gy_i1 (1 - v) f) (Exists.intro 5 k)))))))
theorem ya_ct {post : SY → Prop} {c a b : Nat} (ha : c + 16 * a + 16 ≤ 288) (hb : c + 16 * b + 16 ≤ 288) (ok : aa_ok (c + 16 * a) (c + 16 * b) 16)
    (h : post (nx, sc, bk, aa_cp sp (c + 16 * a) (c + 16 * b) 16, aa_cp vl (c + 16 * a) (c + 16 * b) 16, hs, th, nu)) :
    ∀ d i, i + d = 16 → wY_copyTree_9 post (nI a) (nI b) (nI c) (d + 1) (nI i) nx sc bk (aa_cp sp (c + 16 * a) (c + 16 * b) i) (aa_cp vl (c + 16 * a) (c + 16 * b) i) hs th nu := by
  have ea : nI c + (16 * nI a) = nI (c + 16 * a) := by
    show nI c + (nI 16 * nI a) = _
    rw [pk_mul, nI_add]
  have eb : nI c + (16 * nI b) = nI (c + 16 * b) := by
    show nI c + (nI 16 * nI b) = _
    rw [pk_mul, nI_add]
  intro d
  induction d with
  | zero =>
    intro i hi
    have e : i = 16 := by omega
    subst e
    exact br_t (nI_le (a := 16) (b := 16) (by omega) (by omega)) h
  | succ d ih =>
    intro i hi
    refine br_f (nI_ge (b := 16) (by omega) (by omega)) ?_
    rw [ea, eb, nI_add, nI_add]
    refine gy_sp (by omega) (by omega) (nm_r (nI_1 i) ?_)
    rw [aa_cpS sp ok (by omega), aa_cpS vl ok (by omega)]
    exact ih (i + 1) (by omega)
theorem yp_ct {post : SY → Prop} {v a b : Nat} (hv : v < 2) (ha : a < 3) (hb : b < 3)
    (h : post (nx, sc, bk, aa_cp sp (48 * v + 16 * a) (48 * v + 16 * b) 16, aa_cp vl (48 * v + 16 * a) (48 * v + 16 * b) 16, hs, th, nu)) :
    wpY_copyTree post (nx, sc, bk, sp, vl, hs, th, nu) (nI v) (nI a) (nI b) := by
  unfold wpY_copyTree
  have k := ya_ct (c := 48 * v) (by omega) (by omega) (by unfold aa_ok; omega) h 16 0 (by omega)
  rw [aa_cp0, aa_cp0] at k
  exact nm_r (gy_48 v) (Exists.intro 17 k)
theorem yv_snapshot {post : Int32 → SY → Prop} {v t : Nat} (hv : v < 2) (h1 : 1 ≤ t) (ht : t < 3) (hup : ¬ th 0 = 0)
    (hy : ¬ hs (3 * v + t) = 0 → post (-3) (nx, sc, bk, sp, vl, hs, th, nu))
    (hn : hs (3 * v + t) = 0 → post (nI (cc_n (fun j => ¬ aa_cp sp (48 * v + 16 * 0) (48 * v + 16 * t) 16 (48 * v + j) = 0) 16)) (nx, sc, bk, aa_cp sp (48 * v + 16 * 0) (48 * v + 16 * t) 16, aa_cp vl (48 * v + 16 * 0) (48 * v + 16 * t) 16, upd hs (3 * v + t) 1, th, nu)) :
    wpY_snapshot post (nx, sc, bk, sp, vl, hs, th, nu) (nI v) (nI t) := by
  unfold wpY_snapshot
  have c1 : (nI (3 * v + t)).toNatClampNeg = 3 * v + t := nI_clamp (by omega)
  have v1 : vp_in (nI (3 * v + t)) 18 := vp_in_nI (by omega) (by omega)
  rw [gy_i3, gy_48, c1]
  exact gy_1 2 hv (by omega) (br_t rfl (br_f (nI_ne0 (by omega) (by omega)) (gy_1 3 ht (by omega) (br_t rfl (br_f hup ⟨v1, br_c (fun a => ⟨v1, nm_r (by rw [gg_vb (Or.inr rfl)]) (yp_ct (a := 0) hv (by omega) ht (yp_fl (c := 16) (by omega) (hn a)))⟩) hy⟩)))))
theorem ya_drop {post : Int32 → SY → Prop} {v t : Nat} (hv : v < 2) (ht : t < 3)
    (h : post (nI (cc_n (rr_fst (aa_cl 0 sp (48 * v + 16 * t) 16) 0 (fun _ => True)) 288)) (nx, sc, bk, aa_cl 0 sp (48 * v + 16 * t) 16, vl, hs, th, nu)) :
    ∀ d i, i + d = 16 → wY_drop_60 post (nI v) (nI t) nx sc bk (d + 1) (nI i) (aa_cl 0 sp (48 * v + 16 * t) i) vl hs th nu := by
  intro d
  induction d with
  | zero =>
    intro i hi
    have e : i = 16 := by omega
    subst e
    exact br_t (nI_le (a := 16) (b := 16) (by omega) (by omega)) (yp_iu h)
  | succ d ih =>
    intro i hi
    have e1 : ((48 * nI v) + (16 * nI t)) + nI i = nI (48 * v + 16 * t + i) := by rw [gy_i2, nI_add]
    refine br_f (nI_ge (b := 16) (by omega) (by omega)) ⟨?_, nm_r ?_ (nm_r (nI_1 i) (ih (i + 1) (by omega)))⟩
    · rw [e1]; exact vp_in_nI (by omega) (by omega)
    · rw [e1, nI_clamp (by omega), aa_uL, aa_clS]
theorem yv_drop {post : Int32 → SY → Prop} {v t : Nat} (hv : v < 2) (h1 : 1 ≤ t) (ht : t < 3) (hup : ¬ th 0 = 0)
    (hn : hs (3 * v + t) = 0 → post (-2) (nx, sc, bk, sp, vl, hs, th, nu))
    (hy : ¬ hs (3 * v + t) = 0 → post (nI (cc_n (rr_fst (aa_cl 0 sp (48 * v + 16 * t) 16) 0 (fun _ => True)) 288)) (nx, sc, bk, aa_cl 0 sp (48 * v + 16 * t) 16, vl, upd hs (3 * v + t) 0, th, nu)) :
    wpY_drop post (nx, sc, bk, sp, vl, hs, th, nu) (nI v) (nI t) := by
  unfold wpY_drop
  have c1 : (nI (3 * v + t)).toNatClampNeg = 3 * v + t := nI_clamp (by omega)
  have v1 : vp_in (nI (3 * v + t)) 18 := vp_in_nI (by omega) (by omega)
  rw [gy_i3, c1]
  refine gy_1 2 hv (by omega) (br_t rfl (br_f (nI_ne0 (by omega) (by omega)) (gy_1 3 ht (by omega) (br_t rfl (br_f hup ⟨v1, br_c hn (fun a => ⟨v1, nm_r (by rw [gg_vb (Or.inl rfl)]) ?_⟩)⟩)))))
  have k := ya_drop hv ht (hy a) 16 0 (by omega)
  rw [aa_cl0] at k
  exact Exists.intro 17 k
theorem yv_revert {post : Int32 → SY → Prop} {v t : Nat} (hv : v < 2) (h1 : 1 ≤ t) (ht : t < 3) (hup : ¬ th 0 = 0)
    (hn : hs (3 * v + t) = 0 → post (-2) (nx, sc, bk, sp, vl, hs, th, nu))
    (hy : ¬ hs (3 * v + t) = 0 → post (nI (cc_n (rr_fst (aa_cp sp (48 * v + 16 * t) (48 * v + 16 * 0) 16) 0 (fun _ => True)) 288)) (nx, sc, bk, aa_cp sp (48 * v + 16 * t) (48 * v + 16 * 0) 16, aa_cp vl (48 * v + 16 * t) (48 * v + 16 * 0) 16, hs, th, nu)) :
    wpY_revert post (nx, sc, bk, sp, vl, hs, th, nu) (nI v) (nI t) := by
  unfold wpY_revert
  have c1 : (nI (3 * v + t)).toNatClampNeg = 3 * v + t := nI_clamp (by omega)
  have v1 : vp_in (nI (3 * v + t)) 18 := vp_in_nI (by omega) (by omega)
  rw [gy_i3, c1]
  exact gy_1 2 hv (by omega) (br_t rfl (br_f (nI_ne0 (by omega) (by omega)) (gy_1 3 ht (by omega) (br_t rfl (br_f hup ⟨v1, br_c hn (fun a => yp_ct (b := 0) hv ht (by omega) (yp_iu (hy a)))⟩)))))
theorem yv_read {post : Int64 → Prop} {v t f p : Nat} (hv : v < 2) (ht : t < 3) (hf : f < 4) (hp : p < 4) (hup : ¬ th 0 = 0)
    (hn : hs (3 * v + t) = 0 → post 4294967297)
    (h0 : ¬ hs (3 * v + t) = 0 → sp (48 * v + 16 * t + 4 * f + p) = 0 → post 4294967296)
    (hy : ¬ hs (3 * v + t) = 0 → ¬ sp (48 * v + 16 * t + 4 * f + p) = 0 → post (vl (48 * v + 16 * t + 4 * f + p)).toInt64) :
    wpY_read post (nx, sc, bk, sp, vl, hs, th, nu) (nI v) (nI t) (nI f) (nI p) := by
  unfold wpY_read
  have c1 : (nI (3 * v + t)).toNatClampNeg = 3 * v + t := nI_clamp (by omega)
  have v1 : vp_in (nI (3 * v + t)) 18 := vp_in_nI (by omega) (by omega)
  have c2 : (nI (48 * v + 16 * t + 4 * f + p)).toNatClampNeg = 48 * v + 16 * t + 4 * f + p := nI_clamp (by omega)
  have v2 : vp_in (nI (48 * v + 16 * t + 4 * f + p)) 288 := vp_in_nI (by omega) (by omega)
  have e : (((48 * nI v) + (16 * nI t)) + (4 * nI f)) + nI p = nI (48 * v + 16 * t + 4 * f + p) := by
    rw [gy_i2]
    show (nI (48 * v + 16 * t) + (nI 4 * nI f)) + nI p = _
    rw [pk_mul, nI_add, nI_add]
  rw [gy_i3, c1]
  exact gy_1 2 hv (by omega) (br_t rfl (gy_1 3 ht (by omega) (br_t rfl (gy_1 4 hf (by omega) (br_t rfl (gy_1 4 hp (by omega) (br_t rfl (br_f hup ⟨v1, br_c hn (fun a => nm_r e ⟨v2, br_c (fun b => h0 a (by rw [c2] at b; exact b)) (fun b => ⟨v2, by rw [c2]; exact hy a (by rw [c2] at b; exact b)⟩)⟩)⟩))))))))
theorem ya_shared {post : Int32 → Prop} {x y : Nat} (hx : x + 16 ≤ 288) (hy : y + 16 ≤ 288) (h : post (nI (cc_n (rr_fst sp x (fun s => ∃ j, j < 16 ∧ sp (y + j) = s)) 16))) :
    ∀ d i, i + d = 16 → wY_shared_93 post (nI x) (nI y) nx sc bk sp vl hs th nu (d + 1) (nI (cc_n (rr_fst sp x (fun s => ∃ j, j < 16 ∧ sp (y + j) = s)) i)) (nI (x + i)) := by
  have ex : nI x + 16 = nI (x + 16) := nI_add x 16
  have ey : nI y + 16 = nI (y + 16) := nI_add y 16
  intro d
  induction d with
  | zero =>
    intro i hi
    have e : i = 16 := by omega
    subst e
    exact br_t (by rw [ex]; exact nI_le (by omega) (by omega)) h
  | succ d ih =>
    intro i hi
    have c1 : (nI (x + i)).toNatClampNeg = x + i := nI_clamp (by omega)
    have v1 : vp_in (nI (x + i)) 288 := vp_in_nI (by omega) (by omega)
    have hn : ¬ nI x + 16 ≤ nI (x + i) := by rw [ex]; exact nI_ge (by omega) (by omega)
    have k := ih (i + 1) (by omega)
    by_cases g : sp (x + i) = 0
    · rw [cc_f (p := rr_fst sp x (fun s => ∃ j, j < 16 ∧ sp (y + j) = s)) (fun z => z.1 g)] at k
      exact br_f hn ⟨v1, br_t (by rw [c1]; exact g) (nm_r (nI_1 (x + i)) k)⟩
    · refine br_f hn ⟨v1, br_f (by rw [c1]; exact g) ⟨v1, ?_⟩⟩
      rw [c1, ey]
      refine yp_hi (a := x) (c := i) rfl (by omega) (fun a => br_f gg_i1 ?_) (fun a => br_t rfl ⟨v1, ?_⟩)
      · rw [cc_f (p := rr_fst sp x (fun s => ∃ j, j < 16 ∧ sp (y + j) = s)) (fun z => z.2.1 a)] at k
        exact nm_r (nI_1 (x + i)) k
      · refine yp_hi (a := y) (c := 16) rfl (by omega) (fun b => br_f gg_i1 ?_) (fun b => br_t rfl ?_)
        · rw [cc_t (p := rr_fst sp x (fun s => ∃ j, j < 16 ∧ sp (y + j) = s)) ⟨g, a, b⟩] at k
          exact nm_r (nI_1 _) (nm_r (nI_1 (x + i)) k)
        · rw [cc_f (p := rr_fst sp x (fun s => ∃ j, j < 16 ∧ sp (y + j) = s)) (fun z => b z.2.2)] at k
          exact nm_r (nI_1 (x + i)) k
theorem yv_shared {post : Int32 → Prop} {v a b : Nat} (hv : v < 2) (ha : a < 3) (hb : b < 3) (hup : ¬ th 0 = 0)
    (hn : (hs (3 * v + a) = 0 ∨ hs (3 * v + b) = 0) → post (-2))
    (hy : ¬ hs (3 * v + a) = 0 → ¬ hs (3 * v + b) = 0 → post (nI (cc_n (rr_fst sp (48 * v + 16 * a) (fun s => ∃ j, j < 16 ∧ sp (48 * v + 16 * b + j) = s)) 16))) :
    wpY_shared post (nx, sc, bk, sp, vl, hs, th, nu) (nI v) (nI a) (nI b) := by
  unfold wpY_shared
  have c1 : (nI (3 * v + a)).toNatClampNeg = 3 * v + a := nI_clamp (by omega)
  have v1 : vp_in (nI (3 * v + a)) 18 := vp_in_nI (by omega) (by omega)
  have c2 : (nI (3 * v + b)).toNatClampNeg = 3 * v + b := nI_clamp (by omega)
  have v2 : vp_in (nI (3 * v + b)) 18 := vp_in_nI (by omega) (by omega)
  rw [gy_i3, gy_i3, c1, c2]
  exact gy_1 2 hv (by omega) (br_t rfl (gy_1 3 ha (by omega) (br_t rfl (gy_1 3 hb (by omega) (br_t rfl (br_f hup ⟨v1, br_c (fun z => hn (Or.inl z)) (fun z => ⟨v2, br_c (fun w => hn (Or.inr w)) (fun w => nm_r (gy_i2 v a) (nm_r (gy_i2 v b) (Exists.intro 17 (ya_shared (x := 48 * v + 16 * a) (y := 48 * v + 16 * b) (by omega) (by omega) (hy z w) 16 0 (by omega)))))⟩)⟩))))))
end YV
end
section
section RL
/-! reading a copied and a cleared part -/
theorem aa_cpI {α : Type} (a : Nat → α) {s t c i : Nat} (h : i < c) : aa_cp a s t c (t + i) = a (s + i) := by
  unfold aa_cp
  rw [if_pos (by omega)]
  have e : s + (t + i - t) = s + i := by omega
  rw [e]
theorem aa_cpO {α : Type} (a : Nat → α) {s t c j : Nat} (h : j < t ∨ t + c ≤ j) : aa_cp a s t c j = a j := by
  unfold aa_cp
  rw [if_neg (by omega)]
theorem aa_clI {α : Type} (z : α) (a : Nat → α) {s c i : Nat} (h : i < c) : aa_cl z a s c (s + i) = z := by
  unfold aa_cl
  rw [if_pos (by omega)]
theorem aa_clO {α : Type} (z : α) (a : Nat → α) {s c j : Nat} (h : j < s ∨ s + c ≤ j) : aa_cl z a s c j = a j := by
  unfold aa_cl
  rw [if_neg (by omega)]
theorem aa_swO {α : Type} (a : Nat → α) {x y c j : Nat} (h : j < x ∨ x + c ≤ j) (h2 : j < y ∨ y + c ≤ j) : aa_sw a x y c j = a j := by
  unfold aa_sw
  rw [if_neg (by omega), if_neg (by omega)]
theorem aa_cp01 {a : Nat → Int32} {s t c : Nat} (h : ∀ j, a j = 0 ∨ a j = 1) : ∀ j, aa_cp a s t c j = 0 ∨ aa_cp a s t c j = 1 := by
  intro j; unfold aa_cp; split
  · exact h _
  · exact h _
theorem aa_cl01 {a : Nat → Int32} {s c : Nat} (h : ∀ j, a j = 0 ∨ a j = 1) : ∀ j, aa_cl 0 a s c j = 0 ∨ aa_cl 0 a s c j = 1 := by
  intro j; unfold aa_cl; split
  · exact Or.inl rfl
  · exact h _
theorem aa_up01 {a : Nat → Int32} {k : Nat} {x : Int32} (h : ∀ j, a j = 0 ∨ a j = 1) (hx : x = 0 ∨ x = 1) : ∀ j, upd a k x j = 0 ∨ upd a k x j = 1 := by
  intro j; unfold upd; split
  · exact hx
  · exact h _
/-! what the two sides keep of snapshots and of states that are there -/
def rr_E (hd sn hs th : Nat → Int32) : Prop :=
  (∀ j, sn j = 0 ∨ sn j = 1) ∧ (∀ j, hs j = 0 ∨ hs j = 1) ∧ (∀ j, th j = 0 ∨ th j = 1) ∧
  (∀ s v t, s < 3 → v < 2 → t < 2 → sn (4 * s + (2 * v + t)) = hs (6 * s + (3 * v + (t + 1)))) ∧
  (∀ s v, s < 3 → v < 2 → hs (6 * s + 3 * v) = th s) ∧
  (∀ s, s < 3 → th s = 0 → (∀ j, j < 96 → hd (96 * s + j) = 0) ∧ (∀ j, j < 4 → sn (4 * s + j) = 0))
def rr_N (k : Nat) (th nu : Nat → Int32) : Prop :=
  (∃ m, m ≤ k ∧ nu 1 = nI m) ∧ (∃ m, m ≤ k ∧ nu 2 = nI m) ∧ (nu 1 = 0 ↔ th 1 = 0) ∧ (nu 2 = 0 ↔ th 2 = 0) ∧ (th 1 = 0 → th 2 = 0)
theorem re_hd {hd hd' sn hs th : Nat → Int32} (E : rr_E hd sn hs th) (u : ¬ th 0 = 0) (h : ∀ j, 96 ≤ j → hd' j = hd j) : rr_E hd' sn hs th := by
  obtain ⟨e1, e2, e3, e4, e5, e6⟩ := E
  refine ⟨e1, e2, e3, e4, e5, fun s hs0 z => ?_⟩
  have s0 : ¬ s = 0 := fun g => u (by rw [g] at z; exact z)
  obtain ⟨a, b⟩ := e6 s hs0 z
  exact ⟨fun j hj => by rw [h _ (by omega)]; exact a j hj, b⟩
theorem re_sn {hd sn hs th : Nat → Int32} (E : rr_E hd sn hs th) (u : ¬ th 0 = 0) {v t : Nat} (hv : v < 2) (h1 : 1 ≤ t) (ht : t < 3) {x : Int32} (hx : x = 0 ∨ x = 1) :
    rr_E hd (upd sn (2 * v + (t - 1)) x) (upd hs (3 * v + t) x) th := by
  obtain ⟨e1, e2, e3, e4, e5, e6⟩ := E
  refine ⟨aa_up01 e1 hx, aa_up01 e2 hx, e3, fun s v' t' hs0 hv' ht' => ?_, fun s v' hs0 hv' => ?_, fun s hs0 z => ?_⟩
  · by_cases g : 4 * s + (2 * v' + t') = 2 * v + (t - 1)
    · rw [g, pk_us, show 6 * s + (3 * v' + (t' + 1)) = 3 * v + t from by omega, pk_us]
    · rw [pk_un g, pk_un (by omega)]
      exact e4 s v' t' hs0 hv' ht'
  · rw [pk_un (by omega)]
    exact e5 s v' hs0 hv'
  · have s0 : ¬ s = 0 := fun g => u (by rw [g] at z; exact z)
    obtain ⟨a, b⟩ := e6 s hs0 z
    exact ⟨a, fun j hj => by rw [pk_un (by omega)]; exact b j hj⟩
theorem re_cs {hd sn hs th : Nat → Int32} (E : rr_E hd sn hs th) {a b : Nat} (ha : a < 3) (hb : b < 3) :
    rr_E (aa_cp hd (96 * a) (96 * b) 96) (aa_cp sn (4 * a) (4 * b) 4) (aa_cp hs (6 * a) (6 * b) 6) (upd th b (th a)) := by
  obtain ⟨e1, e2, e3, e4, e5, e6⟩ := E
  refine ⟨aa_cp01 e1, aa_cp01 e2, aa_up01 e3 (e3 a), fun s v t hs0 hv ht => ?_, fun s v hs0 hv => ?_, fun s hs0 z => ?_⟩
  · by_cases g : s = b
    · rw [g, aa_cpI sn (by omega), aa_cpI hs (by omega)]
      exact e4 a v t ha hv ht
    · rw [aa_cpO sn (by omega), aa_cpO hs (by omega)]
      exact e4 s v t hs0 hv ht
  · by_cases g : s = b
    · rw [g, aa_cpI hs (by omega), pk_us]
      exact e5 a v ha hv
    · rw [aa_cpO hs (by omega), pk_un g]
      exact e5 s v hs0 hv
  · by_cases g : s = b
    · rw [g, pk_us] at z
      obtain ⟨p, q⟩ := e6 a ha z
      rw [g]
      exact ⟨fun j hj => by rw [aa_cpI hd hj]; exact p j hj, fun j hj => by rw [aa_cpI sn hj]; exact q j hj⟩
    · rw [pk_un g] at z
      obtain ⟨p, q⟩ := e6 s hs0 z
      exact ⟨fun j hj => by rw [aa_cpO hd (by omega)]; exact p j hj, fun j hj => by rw [aa_cpO sn (by omega)]; exact q j hj⟩
theorem re_zs {hd sn hs th : Nat → Int32} (E : rr_E hd sn hs th) {b : Nat} (hb : b < 3) :
    rr_E (aa_cl 0 hd (96 * b) 96) (aa_cl 0 sn (4 * b) 4) (aa_cl 0 hs (6 * b) 6) (upd th b 0) := by
  obtain ⟨e1, e2, e3, e4, e5, e6⟩ := E
  refine ⟨aa_cl01 e1, aa_cl01 e2, aa_up01 e3 (Or.inl rfl), fun s v t hs0 hv ht => ?_, fun s v hs0 hv => ?_, fun s hs0 z => ?_⟩
  · by_cases g : s = b
    · rw [g, aa_clI 0 sn (by omega), aa_clI 0 hs (by omega)]
    · rw [aa_clO 0 sn (by omega), aa_clO 0 hs (by omega)]
      exact e4 s v t hs0 hv ht
  · by_cases g : s = b
    · rw [g, aa_clI 0 hs (by omega), pk_us]
    · rw [aa_clO 0 hs (by omega), pk_un g]
      exact e5 s v hs0 hv
  · by_cases g : s = b
    · rw [g]
      exact ⟨fun j hj => aa_clI 0 hd hj, fun j hj => aa_clI 0 sn hj⟩
    · rw [pk_un g] at z
      obtain ⟨p, q⟩ := e6 s hs0 z
      exact ⟨fun j hj => by rw [aa_clO 0 hd (by omega)]; exact p j hj, fun j hj => by rw [aa_clO 0 sn (by omega)]; exact q j hj⟩
/-- the empty state mounted: nothing there, and no checkpoint -/
theorem re_m0 {hd sn hs th : Nat → Int32} (E : rr_E hd sn hs th) (z0 : th 0 = 0) (z1 : th 1 = 0) :
    rr_E (aa_cp hd (96 * 1) (96 * 0) 96) (aa_cp sn (4 * 1) (4 * 0) 4) (upd (upd hs 0 1) 3 1) (upd th 0 1) := by
  obtain ⟨e1, e2, e3, e4, e5, e6⟩ := E
  refine ⟨aa_cp01 e1, aa_up01 (aa_up01 e2 (Or.inr rfl)) (Or.inr rfl), aa_up01 e3 (Or.inr rfl), fun s v t hs0 hv ht => ?_, fun s v hs0 hv => ?_, fun s hs0 z => ?_⟩
  · rw [pk_un (by omega), pk_un (by omega)]
    by_cases g : s = 0
    · subst g
      rw [aa_cpI sn (by omega), (e6 1 (by omega) z1).2 _ (by omega), ← e4 0 v t (by omega) hv ht, (e6 0 (by omega) z0).2 _ (by omega)]
    · rw [aa_cpO sn (by omega)]
      exact e4 s v t hs0 hv ht
  · by_cases g : s = 0
    · subst g
      rw [pk_us]
      by_cases g2 : v = 0
      · subst g2; rw [pk_un (by omega), pk_us]
      · rw [show 6 * 0 + 3 * v = 3 from by omega, pk_us]
    · rw [pk_un (by omega), pk_un (by omega), pk_un g]
      exact e5 s v hs0 hv
  · by_cases g : s = 0
    · rw [g, pk_us] at z; exact absurd z gg_i1
    · rw [pk_un g] at z
      obtain ⟨p, q⟩ := e6 s hs0 z
      exact ⟨fun j hj => by rw [aa_cpO hd (by omega)]; exact p j hj, fun j hj => by rw [aa_cpO sn (by omega)]; exact q j hj⟩
theorem rc_m0 {B T : Nat} {hd sn hs th W V : Nat → Int32} {S : Nat → Int64} (C : rr_C B T hd S W V) (E : rr_E hd sn hs th) (z0 : th 0 = 0) (z1 : th 1 = 0) :
    rr_C B T (aa_cp hd (96 * 1) (96 * 0) 96) S W V := by
  refine rr_map C (fun j hj => ?_)
  by_cases g : j < 96
  · refine Or.inl ⟨?_, ?_⟩
    · have e : aa_cp hd (96 * 1) (96 * 0) 96 (96 * 0 + j) = hd (96 * 1 + j) := aa_cpI hd g
      rw [show 96 * 0 + j = j from by omega] at e
      rw [e]
      exact (E.2.2.2.2.2 1 (by omega) z1).1 j g
    · have e := (E.2.2.2.2.2 0 (by omega) z0).1 j g
      rw [show 96 * 0 + j = j from by omega] at e
      exact (C.2.2.1 j hj).mpr e
  · exact Or.inr ⟨j, hj, aa_cpO hd (by omega), rfl, rfl⟩
theorem re_has {hd sn hs th : Nat → Int32} (E : rr_E hd sn hs th) (u : ¬ th 0 = 0) {v t : Nat} (hv : v < 2) (ht : t < 3) : hs (3 * v + t) = 0 ↔ (¬ t = 0 ∧ sn (2 * v + (t - 1)) = 0) := by
  obtain ⟨e1, e2, e3, e4, e5, e6⟩ := E
  by_cases g : t = 0
  · subst g
    have e := e5 0 v (by omega) hv
    rw [show 6 * 0 + 3 * v = 3 * v + 0 from by omega] at e
    rw [e]
    exact ⟨fun z => absurd z u, fun z => absurd rfl z.1⟩
  · have e := e4 0 v (t - 1) (by omega) hv (by omega)
    rw [show 4 * 0 + (2 * v + (t - 1)) = 2 * v + (t - 1) from by omega, show 6 * 0 + (3 * v + (t - 1 + 1)) = 3 * v + t from by omega] at e
    rw [← e]
    exact ⟨fun z => ⟨g, z⟩, fun z => z.2⟩
theorem rc_b {B T : Nat} {H : Nat → Int32} {S : Nat → Int64} {W V : Nat → Int32} (C : rr_C B T H S W V) {M : Nat} (hM : B < M) : ∀ j, j < 288 → ∃ b, b < M ∧ H j = nI b := by
  intro j hj
  obtain ⟨b, hb, e⟩ := C.1 j hj
  exact ⟨b, by omega, e⟩
theorem rc_cnt {B T : Nat} {H : Nat → Int32} {S : Nat → Int64} {W V : Nat → Int32} (C : rr_C B T H S W V) {s c : Nat} (hs : s + c ≤ 288) :
    nI (cc_n (fun j => ¬ S (s + j) = 0) c) = nI (cc_n (fun j => ¬ H (s + j) = 0) c) := by
  refine congrArg nI (cc_ext c (fun j hj => ?_))
  rw [C.2.2.1 (s + j) (by omega)]
theorem rc_use {B T : Nat} {H : Nat → Int32} {S : Nat → Int64} {W V : Nat → Int32} (C : rr_C B T H S W V) (hB : B ≤ 24) :
    nI (cc_n (rr_fst S 0 (fun _ => True)) 288) = nI (cc_n (fun v => v ≠ 0 ∧ rr_has H 0 288 v ∧ True) 25) :=
  congrArg nI (rr_count (Q := fun _ => True) C (by omega) (by omega) (by omega) (fun _ _ _ _ _ _ => Iff.rfl))
/-! the relation -/
/-- the same blocks, numbers, marks: which places share a block, and the block's value (rr_C); snapshots and states that are there (rr_E); the checkpoints' numbers (rr_N) -/
def i_Rel (k : Nat) (u : SX) (v : SY) : Prop :=
  ∃ (B T q : Nat) (hd sn vb : Nat → Int32) (sp : Nat → Int64) (vl hs th nu : Nat → Int32),
    u = (nI B, th 0, nu 1, nu 2, nI q, hd, sn, vb) ∧ v = (nI q, lN T, nI B, sp, vl, hs, th, nu) ∧
    B ≤ 24 ∧ T ≤ k ∧ 1 ≤ q ∧ q ≤ k ∧ rr_C B T hd sp vb vl ∧ rr_E hd sn hs th ∧ rr_N k th nu
theorem rn_k {k k' : Nat} {th nu : Nat → Int32} (h : rr_N k th nu) (hk : k ≤ k') : rr_N k' th nu := by
  obtain ⟨⟨m, hm, e⟩, ⟨m', hm', e'⟩, n3, n4, n5⟩ := h
  exact ⟨⟨m, by omega, e⟩, ⟨m', by omega, e'⟩, n3, n4, n5⟩
theorem i_up {k : Nat} {u : SX} {v : SY} (h : i_Rel k u v) : i_Rel (k + 5) u v := by
  obtain ⟨B, T, q, hd, sn, vb, sp, vl, hs, th, nu, e1, e2, hB, hT, q1, q2, C, E, N⟩ := h
  exact ⟨B, T, q, hd, sn, vb, sp, vl, hs, th, nu, e1, e2, hB, by omega, q1, by omega, C, E, rn_k N (by omega)⟩
theorem ri_mk {k B T q : Nat} {up nn pn : Int32} {hd sn vb : Nat → Int32} {sp : Nat → Int64} {vl hs th nu : Nat → Int32} (hB : B ≤ 24) (hT : T ≤ k) (q1 : 1 ≤ q) (q2 : q ≤ k)
    (C : rr_C B T hd sp vb vl) (E : rr_E hd sn hs th) (N : rr_N k th nu) (e1 : up = th 0) (e2 : nn = nu 1) (e3 : pn = nu 2) :
    i_Rel k (nI B, up, nn, pn, nI q, hd, sn, vb) (nI q, lN T, nI B, sp, vl, hs, th, nu) := by
  subst e1 e2 e3
  exact ⟨B, T, q, hd, sn, vb, sp, vl, hs, th, nu, rfl, rfl, hB, hT, q1, q2, C, E, N⟩
end RL
end
section
section VA
theorem ry_3 {p0 p1 p2 : Int32} {a b c : Nat} {d : Prop} (ha : a < 2 ^ 31) (hb : b < 2 ^ 31) (hc : c < 2 ^ 31) (h : ¬ (gg_out p0 a ∨ gg_out p1 b ∨ gg_out p2 c ∨ d)) :
    ∃ x y z : Nat, x < a ∧ y < b ∧ z < c ∧ p0 = nI x ∧ p1 = nI y ∧ p2 = nI z ∧ ¬ d := by
  obtain ⟨x, hx, ex⟩ := gg_in ha (fun z => h (Or.inl z))
  obtain ⟨y, hy, ey⟩ := gg_in hb (fun z => h (Or.inr (Or.inl z)))
  obtain ⟨w, hw, ew⟩ := gg_in hc (fun z => h (Or.inr (Or.inr (Or.inl z))))
  exact ⟨x, y, w, hx, hy, hw, ex, ey, ew, fun z => h (Or.inr (Or.inr (Or.inr z)))⟩
theorem ry_u {f : Nat → Int32} {t : Nat} {x : Int32} : upd (upd f t x) t (f t) = f := by
  funext j
  by_cases g : j = t
  · rw [g, pk_us]
  · rw [pk_un g, pk_un g]
theorem ry_uL {f : Nat → Int64} {t : Nat} {x : Int64} : vp_updL (vp_updL f t x) t (f t) = f := by
  funext j
  by_cases g : j = t
  · rw [g, pk_uLs]
  · rw [pk_uLn g, pk_uLn g]
theorem i_vc_write {k : Nat} {u : SX} {v : SY} (I : i_Rel k u v) (hk : k + 5 ≤ 2561) (v1 : Int32) (v2 : Int32) (v3 : Int32) (v4 : Int32) : wpX_write (fun r u' => wpY_write (fun r' v' => r' = r ∧ i_Rel (k + 5) u' v') v v1 v2 v3 v4) u v1 v2 v3 v4 := by
  have J := i_up I
  obtain ⟨B, T, q, hd, sn, vb, sp, vl, hs, th, nu, rfl, rfl, hB, hT, q1, q2, C, E, N⟩ := I
  by_cases bad : gg_out v1 2 ∨ gg_out v2 4 ∨ gg_out v3 4 ∨ th 0 = 0
  · exact xn_write bad (yn_write bad ⟨rfl, J⟩)
  · obtain ⟨x, f, p, hx, hf, hp, rfl, rfl, rfl, hup⟩ := ry_3 (by omega) (by omega) (by omega) bad
    refine xv_write hx hf hp hup hB (rc_b C (by omega)) (fun b b0 hb hkp => ?_) (fun hall => ?_)
    · have e := rr_new C (Nat.le_refl B) (t := 48 * x + 4 * f + p) (b := b) (M := 25) (by omega) b0 hb hkp (by omega) (by omega) (by omega)
      have e2 := rr_free C hB b0 hb hkp
      refine yv_write hx hf hp hup hB (fun _ => ⟨by rw [e], ?_⟩) (fun hlt => absurd hlt (by omega))
      exact ri_mk hB (by omega) q1 (by omega) (rr_put C (Nat.le_refl B) (by omega) b0 hb hkp (by omega) v4) (re_hd E hup (fun j hj => pk_un (by omega))) (rn_k N (by omega)) rfl rfl rfl
    · have hk25 : ¬ rr_kept hd (48 * x + 4 * f + p) 25 := by
        rintro ⟨_, i, hi, _, e⟩
        obtain ⟨d, hd1, e3⟩ := C.1 i hi
        rw [e3, nI_eq (by omega) (by omega)] at e
        omega
      have e := rr_new C (B' := 25) (by omega) (t := 48 * x + 4 * f + p) (b := 25) (M := 26) (by omega) (by omega) (by omega) hk25 (by omega) (by omega) (by omega)
      have e2 := rr_full C hB hall
      refine yv_write hx hf hp hup hB (fun hle => absurd hle (by omega)) (fun _ => ⟨rfl, ?_⟩)
      rw [ry_u, ry_uL]
      exact ri_mk hB (by omega) q1 (by omega) (rr_T C (by omega)) E (rn_k N (by omega)) rfl rfl rfl
theorem i_vc_cut {k : Nat} {u : SX} {v : SY} (I : i_Rel k u v) (hk : k + 5 ≤ 2561) (v1 : Int32) (v2 : Int32) (v3 : Int32) : wpX_cut (fun r u' => wpY_cut (fun r' v' => r' = r ∧ i_Rel (k + 5) u' v') v v1 v2 v3) u v1 v2 v3 := by
  have J := i_up I
  obtain ⟨B, T, q, hd, sn, vb, sp, vl, hs, th, nu, rfl, rfl, hB, hT, q1, q2, C, E, N⟩ := I
  by_cases bad : gg_out v1 2 ∨ gg_out v2 4 ∨ gg_out v3 5 ∨ th 0 = 0
  · exact xn_cut bad (yn_cut bad ⟨rfl, J⟩)
  · obtain ⟨x, f, l, hx, hf, hl, rfl, rfl, rfl, hup⟩ := ry_3 (by omega) (by omega) (by omega) bad
    exact xv_cut hx hf hl hup (yv_cut hx hf hl hup ⟨rc_cnt C (by omega), ri_mk hB (by omega) q1 (by omega) (rr_cl C) (re_hd E hup (fun j hj => aa_clO 0 hd (by omega))) (rn_k N (by omega)) rfl rfl rfl⟩)
theorem i_vc_copy {k : Nat} {u : SX} {v : SY} (I : i_Rel k u v) (hk : k + 5 ≤ 2561) (v1 : Int32) (v2 : Int32) (v3 : Int32) : wpX_copy (fun r u' => wpY_copy (fun r' v' => r' = r ∧ i_Rel (k + 5) u' v') v v1 v2 v3) u v1 v2 v3 := by
  have J := i_up I
  obtain ⟨B, T, q, hd, sn, vb, sp, vl, hs, th, nu, rfl, rfl, hB, hT, q1, q2, C, E, N⟩ := I
  by_cases bad : gg_out v1 2 ∨ gg_out v2 4 ∨ gg_out v3 4 ∨ th 0 = 0
  · exact xn_copy bad (yn_copy bad ⟨rfl, J⟩)
  · obtain ⟨x, a, b, hx, ha, hb, rfl, rfl, rfl, hup⟩ := ry_3 (by omega) (by omega) (by omega) bad
    have C' := rr_cp C (s := 48 * x + 4 * a) (t := 48 * x + 4 * b) (c := 4) (by omega)
    exact xv_copy hx ha hb hup (yv_copy hx ha hb hup ⟨rc_cnt C' (by omega), ri_mk hB (by omega) q1 (by omega) C' (re_hd E hup (fun j hj => aa_cpO hd (by omega))) (rn_k N (by omega)) rfl rfl rfl⟩)
theorem i_vc_swap {k : Nat} {u : SX} {v : SY} (I : i_Rel k u v) (hk : k + 5 ≤ 2561) (v1 : Int32) (v2 : Int32) (v3 : Int32) : wpX_swap (fun r u' => wpY_swap (fun r' v' => r' = r ∧ i_Rel (k + 5) u' v') v v1 v2 v3) u v1 v2 v3 := by
  have J := i_up I
  obtain ⟨B, T, q, hd, sn, vb, sp, vl, hs, th, nu, rfl, rfl, hB, hT, q1, q2, C, E, N⟩ := I
  by_cases bad : gg_out v1 2 ∨ gg_out v2 4 ∨ gg_out v3 4 ∨ th 0 = 0
  · exact xn_swap bad (yn_swap bad ⟨rfl, J⟩)
  · obtain ⟨x, a, b, hx, ha, hb, rfl, rfl, rfl, hup⟩ := ry_3 (by omega) (by omega) (by omega) bad
    have R : i_Rel (k + 5) (nI B, th 0, nu 1, nu 2, nI q, aa_sw hd (48 * x + 4 * a) (48 * x + 4 * b) 4, sn, vb) (nI q, lN T, nI B, aa_sw sp (48 * x + 4 * a) (48 * x + 4 * b) 4, aa_sw vl (48 * x + 4 * a) (48 * x + 4 * b) 4, hs, th, nu) :=
      ri_mk hB (by omega) q1 (by omega) (rr_sw C (by omega) (by omega)) (re_hd E hup (fun j hj => aa_swO hd (by omega) (by omega))) (rn_k N (by omega)) rfl rfl rfl
    exact xv_swap hx ha hb hup (fun e => yv_swap hx ha hb hup (fun _ => ⟨rfl, R⟩) (fun n => absurd e n)) (fun n => yv_swap hx ha hb hup (fun e => absurd e n) (fun _ => ⟨rfl, R⟩))
theorem ry_2 {p0 p1 : Int32} {a b : Nat} {d : Prop} (ha : a < 2 ^ 31) (hb : b < 2 ^ 31) (h : ¬ (gg_out p0 a ∨ gg_out p1 b ∨ d)) :
    ∃ x y : Nat, x < a ∧ y < b ∧ p0 = nI x ∧ p1 = nI y ∧ ¬ d := by
  obtain ⟨x, hx, ex⟩ := gg_in ha (fun z => h (Or.inl z))
  obtain ⟨y, hy, ey⟩ := gg_in hb (fun z => h (Or.inr (Or.inl z)))
  exact ⟨x, y, hx, hy, ex, ey, fun z => h (Or.inr (Or.inr z))⟩
theorem ry_s {p0 p1 : Int32} {d : Prop} (h : ¬ (gg_out p0 2 ∨ gg_sn p1 ∨ d)) : ∃ x t : Nat, x < 2 ∧ 1 ≤ t ∧ t < 3 ∧ p0 = nI x ∧ p1 = nI t ∧ ¬ d := by
  obtain ⟨x, hx, ex⟩ := gg_in (by omega) (fun z => h (Or.inl z))
  obtain ⟨t, h1, ht, et⟩ := gg_snIn (fun z => h (Or.inr (Or.inl z)))
  exact ⟨x, t, hx, h1, ht, ex, et, fun z => h (Or.inr (Or.inr z))⟩
theorem i_vc_move {k : Nat} {u : SX} {v : SY} (I : i_Rel k u v) (hk : k + 5 ≤ 2561) (v1 : Int32) (v2 : Int32) : wpX_move (fun r u' => wpY_move (fun r' v' => r' = r ∧ i_Rel (k + 5) u' v') v v1 v2) u v1 v2 := by
  have J := i_up I
  obtain ⟨B, T, q, hd, sn, vb, sp, vl, hs, th, nu, rfl, rfl, hB, hT, q1, q2, C, E, N⟩ := I
  by_cases bad : gg_out v1 2 ∨ gg_out v2 4 ∨ th 0 = 0
  · exact xn_move bad (yn_move bad ⟨rfl, J⟩)
  · obtain ⟨x, f, hx, hf, rfl, rfl, hup⟩ := ry_2 (by omega) (by omega) bad
    have C' := rr_cl (rr_cp C (s := 48 * x + 4 * f) (t := 48 * (1 - x) + 4 * f) (c := 4) (by omega)) (s := 48 * x + 4 * f) (c := 4)
    exact xv_move hx hf hup (yv_move hx hf hup ⟨rc_cnt C' (by omega), ri_mk hB (by omega) q1 (by omega) C' (re_hd E hup (fun j hj => by rw [aa_clO 0 _ (by omega), aa_cpO hd (by omega)])) (rn_k N (by omega)) rfl rfl rfl⟩)
theorem i_vc_snapshot {k : Nat} {u : SX} {v : SY} (I : i_Rel k u v) (hk : k + 5 ≤ 2561) (v1 : Int32) (v2 : Int32) : wpX_snapshot (fun r u' => wpY_snapshot (fun r' v' => r' = r ∧ i_Rel (k + 5) u' v') v v1 v2) u v1 v2 := by
  have J := i_up I
  obtain ⟨B, T, q, hd, sn, vb, sp, vl, hs, th, nu, rfl, rfl, hB, hT, q1, q2, C, E, N⟩ := I
  by_cases bad : gg_out v1 2 ∨ gg_sn v2 ∨ th 0 = 0
  · exact xn_snapshot bad (yn_snapshot bad ⟨rfl, J⟩)
  · obtain ⟨x, t, hx, h1, ht, rfl, rfl, hup⟩ := ry_s bad
    have hh := re_has E hup hx ht
    have C' := rr_cp C (s := 48 * x + 16 * 0) (t := 48 * x + 16 * t) (c := 16) (by omega)
    have e : nI (cc_n (fun j => ¬ aa_cp sp (48 * x + 16 * 0) (48 * x + 16 * t) 16 (48 * x + j) = 0) 16) = nI (cc_n (fun j => ¬ aa_cp hd (48 * x + 16 * 0) (48 * x + 16 * t) 16 (48 * x + 16 * t + j) = 0) 16) := by
      refine congrArg nI (cc_ext 16 (fun j hj => ?_))
      rw [aa_cpI hd hj, aa_cpO sp (by omega), show 48 * x + 16 * 0 + j = 48 * x + j from by omega, C.2.2.1 (48 * x + j) (by omega)]
    exact xv_snapshot hx h1 ht hup (fun z => yv_snapshot hx h1 ht hup (fun _ => ⟨rfl, J⟩) (fun n => absurd (hh.mp n).2 z))
      (fun z => yv_snapshot hx h1 ht hup (fun n => absurd (hh.mpr ⟨by omega, z⟩) n) (fun _ => ⟨e, ri_mk hB (by omega) q1 (by omega) C' (re_sn (re_hd E hup (fun j hj => aa_cpO hd (by omega))) hup hx h1 ht (Or.inr rfl)) (rn_k N (by omega)) rfl rfl rfl⟩))
theorem i_vc_drop {k : Nat} {u : SX} {v : SY} (I : i_Rel k u v) (hk : k + 5 ≤ 2561) (v1 : Int32) (v2 : Int32) : wpX_drop (fun r u' => wpY_drop (fun r' v' => r' = r ∧ i_Rel (k + 5) u' v') v v1 v2) u v1 v2 := by
  have J := i_up I
  obtain ⟨B, T, q, hd, sn, vb, sp, vl, hs, th, nu, rfl, rfl, hB, hT, q1, q2, C, E, N⟩ := I
  by_cases bad : gg_out v1 2 ∨ gg_sn v2 ∨ th 0 = 0
  · exact xn_drop bad (yn_drop bad ⟨rfl, J⟩)
  · obtain ⟨x, t, hx, h1, ht, rfl, rfl, hup⟩ := ry_s bad
    have hh := re_has E hup hx ht
    have C' := rr_cl C (s := 48 * x + 16 * t) (c := 16)
    exact xv_drop hx h1 ht hup (rc_b C' (by omega)) (fun z => yv_drop hx h1 ht hup (fun _ => ⟨rfl, J⟩) (fun n => absurd (hh.mpr ⟨by omega, z⟩) n))
      (fun z => yv_drop hx h1 ht hup (fun n => absurd (hh.mp n).2 z) (fun _ => ⟨rc_use C' hB, ri_mk hB (by omega) q1 (by omega) C' (re_sn (re_hd E hup (fun j hj => aa_clO 0 hd (by omega))) hup hx h1 ht (Or.inl rfl)) (rn_k N (by omega)) rfl rfl rfl⟩))
theorem i_vc_revert {k : Nat} {u : SX} {v : SY} (I : i_Rel k u v) (hk : k + 5 ≤ 2561) (v1 : Int32) (v2 : Int32) : wpX_revert (fun r u' => wpY_revert (fun r' v' => r' = r ∧ i_Rel (k + 5) u' v') v v1 v2) u v1 v2 := by
  have J := i_up I
  obtain ⟨B, T, q, hd, sn, vb, sp, vl, hs, th, nu, rfl, rfl, hB, hT, q1, q2, C, E, N⟩ := I
  by_cases bad : gg_out v1 2 ∨ gg_sn v2 ∨ th 0 = 0
  · exact xn_revert bad (yn_revert bad ⟨rfl, J⟩)
  · obtain ⟨x, t, hx, h1, ht, rfl, rfl, hup⟩ := ry_s bad
    have hh := re_has E hup hx ht
    have C' := rr_cp C (s := 48 * x + 16 * t) (t := 48 * x + 16 * 0) (c := 16) (by omega)
    exact xv_revert hx h1 ht hup (rc_b C' (by omega)) (fun z => yv_revert hx h1 ht hup (fun _ => ⟨rfl, J⟩) (fun n => absurd (hh.mpr ⟨by omega, z⟩) n))
      (fun z => yv_revert hx h1 ht hup (fun n => absurd (hh.mp n).2 z) (fun _ => ⟨rc_use C' hB, ri_mk hB (by omega) q1 (by omega) C' (re_hd E hup (fun j hj => aa_cpO hd (by omega))) (rn_k N (by omega)) rfl rfl rfl⟩))
theorem i_vc_read {k : Nat} {u : SX} {v : SY} (I : i_Rel k u v) (hk : k + 5 ≤ 2561) (v1 : Int32) (v2 : Int32) (v3 : Int32) (v4 : Int32) : wpX_read (fun r => wpY_read (fun r' => r' = r ∧ i_Rel (k + 5) u v) v v1 v2 v3 v4) u v1 v2 v3 v4 := by
  have J := i_up I
  obtain ⟨B, T, q, hd, sn, vb, sp, vl, hs, th, nu, rfl, rfl, hB, hT, q1, q2, C, E, N⟩ := I
  by_cases bad : gg_out v1 2 ∨ gg_out v2 3 ∨ gg_out v3 4 ∨ gg_out v4 4 ∨ th 0 = 0
  · exact xn_read bad (yn_read bad ⟨rfl, J⟩)
  · obtain ⟨x, t, f, hx, ht, hf, rfl, rfl, rfl, hup4⟩ := ry_3 (by omega) (by omega) (by omega) bad
    obtain ⟨p, hp, rfl⟩ := gg_in (by omega) (fun z => hup4 (Or.inl z))
    have hup : ¬ th 0 = 0 := fun z => hup4 (Or.inr z)
    have hh := re_has E hup hx ht
    have nh : (t = 0 ∨ ¬ sn (2 * x + (t - 1)) = 0) → ¬ hs (3 * x + t) = 0 := by
      intro z n
      obtain ⟨a, b⟩ := hh.mp n
      exact z.elim a (fun c => c b)
    have c3 := C.2.2.1 (48 * x + 16 * t + 4 * f + p) (by omega)
    have c5 := C.2.2.2.2 (48 * x + 16 * t + 4 * f + p) (by omega)
    exact xv_read hx ht hf hp hup (rc_b C (by omega))
      (fun z0 z => yv_read hx ht hf hp hup (fun _ => ⟨rfl, J⟩) (fun n => absurd (hh.mpr ⟨z0, z⟩) n) (fun n => absurd (hh.mpr ⟨z0, z⟩) n))
      (fun z e => yv_read hx ht hf hp hup (fun n => absurd n (nh z)) (fun _ _ => ⟨rfl, J⟩) (fun _ n => absurd (c3.mpr e) n))
      (fun z e => yv_read hx ht hf hp hup (fun n => absurd n (nh z)) (fun _ n => absurd (c3.mp n) e) (fun _ _ => ⟨by rw [c5 e], J⟩))
theorem i_vc_shared {k : Nat} {u : SX} {v : SY} (I : i_Rel k u v) (hk : k + 5 ≤ 2561) (v1 : Int32) (v2 : Int32) (v3 : Int32) : wpX_shared (fun r => wpY_shared (fun r' => r' = r ∧ i_Rel (k + 5) u v) v v1 v2 v3) u v1 v2 v3 := by
  have J := i_up I
  obtain ⟨B, T, q, hd, sn, vb, sp, vl, hs, th, nu, rfl, rfl, hB, hT, q1, q2, C, E, N⟩ := I
  by_cases bad : gg_out v1 2 ∨ gg_out v2 3 ∨ gg_out v3 3 ∨ th 0 = 0
  · exact xn_shared bad (yn_shared bad ⟨rfl, J⟩)
  · obtain ⟨x, a, b, hx, ha, hb, rfl, rfl, rfl, hup⟩ := ry_3 (by omega) (by omega) (by omega) bad
    have hA := re_has E hup hx ha
    have hC := re_has E hup hx hb
    have e : cc_n (rr_fst sp (48 * x + 16 * a) (fun s => ∃ j, j < 16 ∧ sp (48 * x + 16 * b + j) = s)) 16 = cc_n (fun w => w ≠ 0 ∧ rr_has hd (48 * x + 16 * a) 16 w ∧ rr_has hd (48 * x + 16 * b) 16 w) 25 := by
      refine rr_count C (by omega) (by omega) (by omega) (fun i w hi ew hw w0 => ?_)
      constructor
      · rintro ⟨j, hj, ej⟩
        exact ⟨j, hj, by rw [← ew]; exact (C.2.2.2.1 _ _ (by omega) (by omega)).mp ej⟩
      · rintro ⟨j, hj, ej⟩
        exact ⟨j, hj, (C.2.2.2.1 _ _ (by omega) (by omega)).mpr (by rw [ej, ew])⟩
    refine xv_shared hx ha hb hup (rc_b C (by omega)) (fun z => yv_shared hx ha hb hup (fun _ => ⟨rfl, J⟩) (fun na nb => ?_)) (fun za zb => yv_shared hx ha hb hup (fun n => ?_) (fun _ _ => ⟨by rw [e], J⟩))
    · rcases z with z | z
      · exact absurd (hA.mpr z) na
      · exact absurd (hC.mpr z) nb
    · rcases n with n | n
      · obtain ⟨p, r⟩ := hA.mp n
        exact za.elim (fun c => absurd c p) (fun c => absurd r c)
      · obtain ⟨p, r⟩ := hC.mp n
        exact zb.elim (fun c => absurd c p) (fun c => absurd r c)
theorem i_vc_used {k : Nat} {u : SX} {v : SY} (I : i_Rel k u v) (hk : k + 5 ≤ 2561) : wpX_used (fun r => wpY_used (fun r' => r' = r ∧ i_Rel (k + 5) u v) v) u := by
  have J := i_up I
  obtain ⟨B, T, q, hd, sn, vb, sp, vl, hs, th, nu, rfl, rfl, hB, hT, q1, q2, C, E, N⟩ := I
  unfold wpX_used wpY_used
  exact br_c (fun z => br_t z ⟨rfl, J⟩) (fun z => xp_iu (rc_b C (by omega)) (br_f z (yp_iu ⟨rc_use C hB, J⟩)))
end VA
end
section
section VB
theorem rz_01 {x : Int32} (h : x = 0 ∨ x = 1) (n : ¬ x = 0) : (1 : Int32) = x := (h.resolve_left n).symm
theorem i_vc0 (k0 : Int32) : wpX_init (fun u => wpY_init (fun v => i_Rel 1 u v) k0) k0 := by
  have key : ∀ B, B ≤ 24 → i_Rel 1 (nI B, 1, 0, 0, 1, (fun _ => 0), (fun _ => 0), (fun _ => 0)) (1, 0, nI B, (fun _ => 0), (fun _ => 0), upd (upd (fun _ => 0) 0 (vp_nar .boolean 1)) 3 (vp_nar .boolean 1), upd (fun _ => 0) 0 (vp_nar .boolean 1), (fun _ => 0)) := by
    intro B hB
    rw [gg_vb (Or.inr rfl)]
    refine ri_mk (T := 0) (q := 1) hB (by omega) (by omega) (by omega) ?_ ?_ ?_ rfl rfl rfl
    · exact ⟨fun j _ => ⟨0, by omega, rfl⟩, fun j _ => ⟨0, by omega, rfl⟩, fun j _ => ⟨fun _ => rfl, fun _ => rfl⟩, fun i j _ _ => ⟨fun _ => rfl, fun _ => rfl⟩, fun j _ n => absurd rfl n⟩
    · refine ⟨fun _ => Or.inl rfl, aa_up01 (aa_up01 (fun _ => Or.inl rfl) (Or.inr rfl)) (Or.inr rfl), aa_up01 (fun _ => Or.inl rfl) (Or.inr rfl), fun s v t hs hv ht => ?_, fun s v hs hv => ?_, fun s hs z => ⟨fun _ _ => rfl, fun _ _ => rfl⟩⟩
      · rw [pk_un (by omega), pk_un (by omega)]
      · by_cases g : s = 0
        · subst g
          rw [pk_us]
          by_cases g2 : v = 0
          · subst g2; rw [pk_un (by omega), pk_us]
          · rw [show 6 * 0 + 3 * v = 3 from by omega, pk_us]
        · rw [pk_un (by omega), pk_un (by omega), pk_un g]
    · exact ⟨⟨0, by omega, rfl⟩, ⟨0, by omega, rfl⟩, ⟨fun _ => rfl, fun _ => rfl⟩, ⟨fun _ => rfl, fun _ => rfl⟩, fun _ => rfl⟩
  unfold wpX_init wpY_init
  refine br_c (fun a => br_c (fun b => ?_) (fun b => br_t a (br_f b (nm_e (nm_e (nm_e (key 24 (by omega)))))))) (fun a => br_f a (nm_e (nm_e (nm_e (key 4 (by omega))))))
  have n0 : ¬ k0 < 0 := Int32.not_lt.mpr (Int32.le_trans (by decide) a)
  obtain ⟨j, hj, rfl⟩ := nI_of n0
  have hb : j ≤ 24 := (nI_leI (b := 24) hj (by omega)).mp b
  exact br_t a (br_t b (nm_e (nm_e (nm_e (key j hb)))))
theorem i_vc_sync {k : Nat} {u : SX} {v : SY} (I : i_Rel k u v) (hk : k + 5 ≤ 2561) (v1 : Int32) : wpX_sync (fun r u' => wpY_sync (fun r' v' => r' = r ∧ i_Rel (k + 5) u' v') v v1) u v1 := by
  have J := i_up I
  obtain ⟨B, T, q, hd, sn, vb, sp, vl, hs, th, nu, rfl, rfl, hB, hT, q1, q2, C, E, N⟩ := I
  obtain ⟨⟨m, hm, em⟩, ⟨m', hm', em'⟩, n3, n4, n5⟩ := N
  have s01 := E.1
  have h01 := E.2.1
  have t01 := E.2.2.1
  unfold wpX_sync wpY_sync
  refine br_c (fun z => br_t z ⟨rfl, J⟩) (fun z => br_c (fun e => ?_) (fun e => ?_))
  · refine xp_cs (a := 1) (b := 2) (by omega) (by omega) s01 (xp_cs (a := 0) (b := 1) (by omega) (by omega) (aa_cp01 s01) (nm_r (nI_1 q) (br_f z (br_t e ?_))))
    refine yp_cs (a := 1) (b := 2) (by omega) (by omega) h01 t01 (yp_cs (a := 0) (b := 1) (by omega) (by omega) (aa_cp01 h01) (aa_up01 t01 (t01 1)) (nm_e (nm_r (nI_1 q) ⟨rfl, ?_⟩)))
    have nq : ¬ nI q = 0 := nI_ne0 (by omega) (by omega)
    exact ri_mk hB (by omega) (by omega) (by omega) (rr_cp (rr_cp C (by omega)) (by omega)) (re_cs (re_cs E (by omega) (by omega)) (by omega) (by omega))
      ⟨⟨q, by omega, rfl⟩, ⟨m, by omega, em⟩, ⟨fun y => absurd y nq, fun y => absurd y z⟩, n3, fun y => absurd y z⟩ rfl rfl rfl
  · refine xp_zs (a := 2) (by omega) (xp_gd (br_f z (br_f e ?_)))
    refine yp_zs (a := 2) (by omega) (yp_zs (a := 0) (by omega) ⟨rfl, ?_⟩)
    exact ri_mk hB (by omega) q1 (by omega) (rr_cl (rr_cl C)) (re_zs (re_zs E (by omega)) (by omega))
      ⟨⟨m, by omega, em⟩, ⟨0, by omega, rfl⟩, n3, ⟨fun _ => rfl, fun _ => rfl⟩, fun _ => rfl⟩ rfl rfl rfl
theorem i_vc_crash {k : Nat} {u : SX} {v : SY} (I : i_Rel k u v) (hk : k + 5 ≤ 2561) : wpX_crash (fun r u' => wpY_crash (fun r' v' => r' = r ∧ i_Rel (k + 5) u' v') v) u := by
  have J := i_up I
  obtain ⟨B, T, q, hd, sn, vb, sp, vl, hs, th, nu, rfl, rfl, hB, hT, q1, q2, C, E, N⟩ := I
  obtain ⟨⟨m, hm, em⟩, ⟨m', hm', em'⟩, n3, n4, n5⟩ := N
  unfold wpX_crash wpY_crash
  refine br_c (fun z => br_t z ⟨rfl, J⟩) (fun z => xp_gd (br_f z (yp_zs (a := 0) (by omega) ⟨rfl, ?_⟩)))
  exact ri_mk hB (by omega) q1 (by omega) (rr_cl C) (re_zs E (by omega)) ⟨⟨m, by omega, em⟩, ⟨m', by omega, em'⟩, n3, n4, n5⟩ rfl rfl rfl
theorem i_vc_damage {k : Nat} {u : SX} {v : SY} (I : i_Rel k u v) (hk : k + 5 ≤ 2561) (v1 : Int32) : wpX_damage (fun r u' => wpY_damage (fun r' v' => r' = r ∧ i_Rel (k + 5) u' v') v v1) u v1 := by
  have J := i_up I
  obtain ⟨B, T, q, hd, sn, vb, sp, vl, hs, th, nu, rfl, rfl, hB, hT, q1, q2, C, E, N⟩ := I
  obtain ⟨⟨m, hm, em⟩, ⟨m', hm', em'⟩, n3, n4, n5⟩ := N
  have s01 := E.1
  have h01 := E.2.1
  have t01 := E.2.2.1
  unfold wpX_damage wpY_damage
  refine br_c (fun z => br_c (fun y => br_t z (br_t (n3.mp y) ⟨rfl, J⟩)) (fun y => ?_)) (fun z => br_f z ⟨rfl, J⟩)
  have R : i_Rel (k + 5) (nI B, th 0, nu 2, 0, nI q, aa_cl 0 (aa_cp hd (96 * 2) (96 * 1) 96) (96 * 2) 96, aa_cl 0 (aa_cp sn (4 * 2) (4 * 1) 4) (4 * 2) 4, vb)
      (nI q, lN T, nI B, aa_cl 0 (aa_cp sp (96 * 2) (96 * 1) 96) (96 * 2) 96, aa_cp vl (96 * 2) (96 * 1) 96, aa_cl 0 (aa_cp hs (6 * 2) (6 * 1) 6) (6 * 2) 6, upd (upd th 1 (th 2)) 2 0, upd (upd nu 1 (nu 2)) 2 0) :=
    ri_mk hB (by omega) q1 (by omega) (rr_cl (rr_cp C (by omega))) (re_zs (re_cs E (by omega) (by omega)) (by omega))
      ⟨⟨m', by omega, em'⟩, ⟨0, by omega, rfl⟩, n4, ⟨fun _ => rfl, fun _ => rfl⟩, fun _ => rfl⟩ rfl rfl rfl
  refine xp_cs (a := 2) (b := 1) (by omega) (by omega) s01 (xp_zs (a := 2) (by omega) ?_)
  unfold wpX_countCheckpoints
  refine br_c (fun w => br_t z (br_f (fun x => y (n3.mpr x)) ?_)) (fun w => br_t rfl (br_t z (br_f (fun x => y (n3.mpr x)) ?_)))
  · exact yp_cs (a := 2) (b := 1) (by omega) (by omega) h01 t01 (yp_zs (a := 2) (by omega) (br_t (n4.mp w) ⟨rfl, R⟩))
  · exact yp_cs (a := 2) (b := 1) (by omega) (by omega) h01 t01 (yp_zs (a := 2) (by omega) (br_f (fun x => w (n4.mpr x)) ⟨rfl, R⟩))
theorem i_vc_mount {k : Nat} {u : SX} {v : SY} (I : i_Rel k u v) (hk : k + 5 ≤ 2561) : wpX_mount (fun r u' => wpY_mount (fun r' v' => r' = r ∧ i_Rel (k + 5) u' v') v) u := by
  have J := i_up I
  obtain ⟨B, T, q, hd, sn, vb, sp, vl, hs, th, nu, rfl, rfl, hB, hT, q1, q2, C, E, N⟩ := I
  obtain ⟨⟨m, hm, em⟩, ⟨m', hm', em'⟩, n3, n4, n5⟩ := N
  have s01 := E.1
  have h01 := E.2.1
  have t01 := E.2.2.1
  unfold wpX_mount wpY_mount
  refine br_c (fun z => xp_cs (a := 1) (b := 0) (by omega) (by omega) s01 (nm_e (br_t z (br_c (fun y => ?_) (fun y => ?_))))) (fun z => br_f z ⟨rfl, J⟩)
  · rw [gg_vb (Or.inr rfl)]
    refine nm_e (nm_e (nm_e ⟨(n3.mpr y).symm, ?_⟩))
    rw [n3.mpr y]
    exact ri_mk (q := 1) hB (by omega) (by omega) (by omega) (rc_m0 C E z y) (re_m0 E z y)
      ⟨⟨m, by omega, em⟩, ⟨m', by omega, em'⟩, n3, n4, n5⟩ rfl (n3.mpr y).symm rfl
  · refine yp_cs (a := 1) (b := 0) (by omega) (by omega) h01 t01 (nm_e ⟨rfl, ?_⟩)
    have e : nu 1 + 1 = nI (m + 1) := by rw [em, nI_1]
    show i_Rel (k + 5) (nI B, 1, nu 1, nu 2, nu 1 + 1, aa_cp hd (96 * 1) (96 * 0) 96, aa_cp sn (4 * 1) (4 * 0) 4, vb) (nu 1 + 1, lN T, nI B, aa_cp sp (96 * 1) (96 * 0) 96, aa_cp vl (96 * 1) (96 * 0) 96, aa_cp hs (6 * 1) (6 * 0) 6, upd th 0 (th 1), upd nu 0 (nu 1))
    rw [e]
    exact ri_mk hB (by omega) (by omega) (by omega) (rr_cp C (by omega)) (re_cs E (by omega) (by omega))
      ⟨⟨m, by omega, em⟩, ⟨m', by omega, em'⟩, n3, n4, n5⟩ (rz_01 (t01 1) y) rfl rfl
theorem rz_b {P : Int32 → Prop} {x y : Int32} (e : x = y) (h0 : y = 0 → P 0) (h1 : ¬ y = 0 → P 1) : (x = 0 → P 0) ∧ (¬ x = 0 → P 1) := by
  subst e
  exact br_c h0 h1
theorem i_vc_info {k : Nat} {u : SX} {v : SY} (I : i_Rel k u v) (hk : k + 5 ≤ 2561) (v1 : Int32) : wpX_info (fun r => wpY_info (fun r' => r' = r ∧ i_Rel (k + 5) u v) v v1) u v1 := by
  have J := i_up I
  obtain ⟨B, T, q, hd, sn, vb, sp, vl, hs, th, nu, rfl, rfl, hB, hT, q1, q2, C, E, N⟩ := I
  obtain ⟨_, _, n3, n4, n5⟩ := N
  obtain ⟨_, _, _, e4, _, _⟩ := E
  have d4 : sn 0 = hs 1 := e4 0 0 0 (by omega) (by omega) (by omega)
  have d5 : sn 1 = hs 2 := e4 0 0 1 (by omega) (by omega) (by omega)
  have d6 : sn 2 = hs 4 := e4 0 1 0 (by omega) (by omega) (by omega)
  have d7 : sn 3 = hs 5 := e4 0 1 1 (by omega) (by omega) (by omega)
  unfold wpX_info wpY_info
  refine br_c (fun a => br_t a ⟨rfl, J⟩) (fun a => br_c (fun b => br_f a (br_t b ⟨rfl, J⟩)) (fun b => ?_))
  refine br_c (fun c => ?_) (fun c0 => br_c (fun c => ?_) (fun c1 => br_c (fun c => ?_) (fun c2 => br_c (fun c => ?_) (fun c3 => br_c (fun c => ?_) (fun c4 => br_c (fun c => ?_) (fun c5 => br_c (fun c => ?_) (fun c6 => br_c (fun c => ?_) (fun c7 => trivial))))))))
  · exact br_c (fun z => br_f a (br_f b (br_t c (br_t z ⟨rfl, J⟩)))) (fun z => br_f a (br_f b (br_t c (br_f z ⟨rfl, J⟩))))
  · unfold wpX_countCheckpoints
    refine br_c (fun z => br_f a (br_f b (br_f c0 (br_t c (br_t (n5 (n3.mp z)) (br_t (n3.mp z) ⟨rfl, J⟩)))))) (fun z => br_c (fun y => br_f a (br_f b (br_f c0 (br_t c (br_t (n4.mp y) (br_f (fun x => z (n3.mpr x)) ⟨rfl, J⟩)))))) (fun y => br_f a (br_f b (br_f c0 (br_t c (br_f (fun x => y (n4.mpr x)) ⟨rfl, J⟩))))))
  · exact br_f a (br_f b (br_f c0 (br_f c1 (br_t c ⟨rfl, J⟩))))
  · exact br_f a (br_f b (br_f c0 (br_f c1 (br_f c2 (br_t c ⟨rfl, J⟩)))))
  · subst c
    refine ⟨vp_in_iff.mpr (by decide), ?_⟩
    show ((sn 0 = 0 → _) ∧ (¬ sn 0 = 0 → _))
    exact br_c (fun z => br_f a (br_f b (br_f c0 (br_f c1 (br_f c2 (br_f c3 (br_t rfl (br_t (d4.symm.trans z) ⟨rfl, J⟩)))))))) (fun z => br_f a (br_f b (br_f c0 (br_f c1 (br_f c2 (br_f c3 (br_t rfl (br_f (fun x => z (d4.trans x)) ⟨rfl, J⟩))))))))
  · subst c
    refine ⟨vp_in_iff.mpr (by decide), ?_⟩
    show ((sn 1 = 0 → _) ∧ (¬ sn 1 = 0 → _))
    exact br_c (fun z => br_f a (br_f b (br_f c0 (br_f c1 (br_f c2 (br_f c3 (br_f c4 (br_t rfl (br_t (d5.symm.trans z) ⟨rfl, J⟩))))))))) (fun z => br_f a (br_f b (br_f c0 (br_f c1 (br_f c2 (br_f c3 (br_f c4 (br_t rfl (br_f (fun x => z (d5.trans x)) ⟨rfl, J⟩)))))))))
  · subst c
    refine ⟨vp_in_iff.mpr (by decide), ?_⟩
    show ((sn 2 = 0 → _) ∧ (¬ sn 2 = 0 → _))
    exact br_c (fun z => br_f a (br_f b (br_f c0 (br_f c1 (br_f c2 (br_f c3 (br_f c4 (br_f c5 (br_t rfl (br_t (d6.symm.trans z) ⟨rfl, J⟩)))))))))) (fun z => br_f a (br_f b (br_f c0 (br_f c1 (br_f c2 (br_f c3 (br_f c4 (br_f c5 (br_t rfl (br_f (fun x => z (d6.trans x)) ⟨rfl, J⟩))))))))))
  · subst c
    refine ⟨vp_in_iff.mpr (by decide), ?_⟩
    show ((sn 3 = 0 → _) ∧ (¬ sn 3 = 0 → _))
    exact br_c (fun z => br_f a (br_f b (br_f c0 (br_f c1 (br_f c2 (br_f c3 (br_f c4 (br_f c5 (br_f c6 (br_t rfl (br_t (d7.symm.trans z) ⟨rfl, J⟩))))))))))) (fun z => br_f a (br_f b (br_f c0 (br_f c1 (br_f c2 (br_f c3 (br_f c4 (br_f c5 (br_f c6 (br_t rfl (br_f (fun x => z (d7.trans x)) ⟨rfl, J⟩)))))))))))
end VB
end
