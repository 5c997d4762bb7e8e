section CC
/-! counting: how many i below n satisfy p -/
noncomputable def cc_n (p : Nat → Prop) : Nat → Nat
  | 0 => 0
  | n + 1 => cc_n p n + @ite Nat (p n) (Classical.propDecidable (p n)) 1 0
theorem cc_0 {p : Nat → Prop} : cc_n p 0 = 0 := rfl
theorem cc_t {p : Nat → Prop} {n : Nat} (h : p n) : cc_n p (n + 1) = cc_n p n + 1 := by
  show cc_n p n + @ite Nat (p n) (Classical.propDecidable (p n)) 1 0 = _
  rw [if_pos h]
theorem cc_f {p : Nat → Prop} {n : Nat} (h : ¬ p n) : cc_n p (n + 1) = cc_n p n := by
  show cc_n p n + @ite Nat (p n) (Classical.propDecidable (p n)) 1 0 = _
  rw [if_neg h]; rfl
theorem cc_ext {p q : Nat → Prop} : ∀ n, (∀ i, i < n → (p i ↔ q i)) → cc_n p n = cc_n q n := by
  intro n
  induction n with
  | zero => intro _; rfl
  | succ n ih =>
    intro h
    have e := ih (fun i hi => h i (by omega))
    have hn := h n (by omega)
    by_cases c : p n
    · rw [cc_t c, cc_t (hn.mp c), e]
    · rw [cc_f c, cc_f (fun d => c (hn.mpr d)), e]
theorem cc_add {p q : Nat → Prop} {a : Nat} (ha : ¬ p a) : ∀ n, a < n → (∀ i, i < n → (q i ↔ (p i ∨ i = a))) → cc_n q n = cc_n p n + 1 := by
  intro n
  induction n with
  | zero => intro h; omega
  | succ n ih =>
    intro h hq
    by_cases e : a = n
    · subst e
      have e2 : cc_n q a = cc_n p a := cc_ext a (fun i hi => ⟨fun z => ((hq i (by omega)).mp z).elim id (fun z => absurd z (by omega)), fun z => (hq i (by omega)).mpr (Or.inl z)⟩)
      rw [cc_t ((hq a (by omega)).mpr (Or.inr rfl)), cc_f ha, e2]
    · have e2 := ih (by omega) (fun i hi => hq i (by omega))
      have hn := hq n (by omega)
      by_cases c : p n
      · rw [cc_t c, cc_t (hn.mpr (Or.inl c)), e2]
      · rw [cc_f c, cc_f (fun d => (hn.mp d).elim c (fun z => e z.symm)), e2]
theorem cc_le {p : Nat → Prop} : ∀ n, cc_n p n ≤ n := by
  intro n
  induction n with
  | zero => exact Nat.le_refl _
  | succ n ih =>
    by_cases c : p n
    · rw [cc_t c]; omega
    · rw [cc_f c]; omega
theorem cc_mono {p q : Nat → Prop} : ∀ n, (∀ i, i < n → p i → q i) → cc_n p n ≤ cc_n q n := by
  intro n
  induction n with
  | zero => intro _; exact Nat.le_refl _
  | succ n ih =>
    intro h
    have e := ih (fun i hi => h i (by omega))
    have hn := h n (by omega)
    by_cases c : p n
    · rw [cc_t c, cc_t (hn c)]; omega
    · rw [cc_f c]
      by_cases d : q n
      · rw [cc_t d]; omega
      · rw [cc_f d]; exact e
/-- the numbers 1..B, counted below n + 1 -/
theorem cc_rg (B : Nat) : ∀ n, cc_n (fun v => v ≠ 0 ∧ v ≤ B) (n + 1) = if n ≤ B then n else B := by
  intro n
  induction n with
  | zero => rw [cc_f (fun z => z.1 rfl), if_pos (Nat.zero_le _)]; rfl
  | succ n ih =>
    by_cases c : n + 1 ≤ B
    · rw [cc_t (p := fun v => v ≠ 0 ∧ v ≤ B) ⟨by omega, c⟩, ih, if_pos c, if_pos (by omega)]
    · rw [cc_f (fun z => c z.2), ih, if_neg c]
      split <;> omega
/-- the place i is the first one that holds its value, a value with P -/
def cc_F (f : Nat → Nat) (P : Nat → Prop) (i : Nat) : Prop := f i ≠ 0 ∧ (∀ j, j < i → f j ≠ f i) ∧ P (f i)
/-- first places are as many as different values -/
theorem cc_first (f : Nat → Nat) (P : Nat → Prop) (M : Nat) : ∀ n, (∀ i, i < n → f i < M) → cc_n (cc_F f P) n = cc_n (fun v => v ≠ 0 ∧ (∃ i, i < n ∧ f i = v) ∧ P v) M := by
  intro n
  induction n with
  | zero =>
    intro _
    have e : ∀ m, cc_n (fun v => v ≠ 0 ∧ (∃ i, i < 0 ∧ f i = v) ∧ P v) m = 0 := by
      intro m
      induction m with
      | zero => rfl
      | succ m ih => rw [cc_f (fun z => by obtain ⟨_, ⟨i, hi, _⟩, _⟩ := z; omega), ih]
    rw [e]; rfl
  | succ n ih =>
    intro h
    have e := ih (fun i hi => h i (by omega))
    by_cases c : cc_F f P n
    · rw [cc_t c, e]
      refine (cc_add (a := f n) ?_ M (h n (by omega)) ?_).symm
      · rintro ⟨_, ⟨i, hi, he⟩, _⟩
        exact c.2.1 i hi he
      · intro v _
        constructor
        · rintro ⟨v0, ⟨i, hi, he⟩, hp⟩
          by_cases g : i = n
          · exact Or.inr (by rw [← he, g])
          · exact Or.inl ⟨v0, ⟨i, by omega, he⟩, hp⟩
        · rintro (⟨v0, ⟨i, hi, he⟩, hp⟩ | hv)
          · exact ⟨v0, ⟨i, by omega, he⟩, hp⟩
          · rw [hv]; exact ⟨c.1, ⟨n, by omega, rfl⟩, c.2.2⟩
    · rw [cc_f c, e]
      refine cc_ext M (fun v hv => ⟨?_, ?_⟩)
      · rintro ⟨v0, ⟨i, hi, he⟩, hp⟩
        exact ⟨v0, ⟨i, by omega, he⟩, hp⟩
      · rintro ⟨v0, ⟨i, hi, he⟩, hp⟩
        by_cases g : i = n
        · subst g
          subst he
          by_cases k : ∃ j, j < i ∧ f j = f i
          · exact ⟨v0, k, hp⟩
          · exact absurd ⟨v0, fun j hj z => k ⟨j, hj, z⟩, hp⟩ c
        · exact ⟨v0, ⟨i, by omega, he⟩, hp⟩
end CC
