section XS
variable {bl up nn pn xn : Int32} {hd sn vb : Nat → Int32}
/-! sets of blocks by bits -/
theorem xa_bw {post : Int32 → Prop} {z : Int32} (hb : ∀ j, j < 288 → ∃ b, b < 32 ∧ hd j = nI b)
    (h : ∀ x, (∀ v, v < 32 → (bt x v = true ↔ ∃ j, j < 288 ∧ ¬ nI j = z ∧ hd j = nI v)) → post x) :
    ∀ d i x, i + d = 288 → (∀ v, v < 32 → (bt x v = true ↔ ∃ j, j < i ∧ ¬ nI j = z ∧ hd j = nI v)) → wX_blocksInUseWithout_4 post z bl up nn pn xn hd sn vb (d + 1) x (nI i) := by
  intro d
  induction d with
  | zero =>
    intro i x hi hx
    have e : i = 288 := by omega
    subst e
    exact br_t (nI_le (a := 288) (b := 288) (by omega) (by omega)) (h x hx)
  | succ d ih =>
    intro i x hi hx
    have hge : ¬ (288 : Int32) ≤ nI i := nI_ge (b := 288) (by omega) (by omega)
    by_cases g : nI i = z
    · refine br_f hge (br_t g (nm_r (nI_1 i) (ih (i + 1) x (by omega) (fun v hv => ?_))))
      rw [hx v hv]
      constructor
      · rintro ⟨j, hj, a, b⟩
        exact ⟨j, by omega, a, b⟩
      · rintro ⟨j, hj, a, b⟩
        by_cases k : j = i
        · subst k; exact absurd g a
        · exact ⟨j, by omega, a, b⟩
    · obtain ⟨b, hb1, e⟩ := hb i (by omega)
      refine br_f hge (br_f g ⟨vp_in_nI (by omega) (by omega), nm_r (e' := x ||| ((1 : Int32) <<< (nI b &&& 31))) (by rw [nI_clamp (by omega), e]) (nm_r (nI_1 i) (ih (i + 1) _ (by omega) (fun v hv => ?_)))⟩)
      rw [bb_or x hb1 hv, hx v hv]
      constructor
      · rintro (⟨j, hj, a, c⟩ | a)
        · exact ⟨j, by omega, a, c⟩
        · subst a; exact ⟨i, by omega, g, e⟩
      · rintro ⟨j, hj, a, c⟩
        by_cases k : j = i
        · subst k
          rw [e, nI_eq (by omega) (by omega)] at c
          exact Or.inr c.symm
        · exact Or.inl ⟨j, by omega, a, c⟩
theorem xp_bw {post : Int32 → Prop} {z : Int32} (hb : ∀ j, j < 288 → ∃ b, b < 32 ∧ hd j = nI b)
    (h : ∀ x, (∀ v, v < 32 → (bt x v = true ↔ ∃ j, j < 288 ∧ ¬ nI j = z ∧ hd j = nI v)) → post x) :
    wpX_blocksInUseWithout post (bl, up, nn, pn, xn, hd, sn, vb) z :=
  Exists.intro 289 (xa_bw hb h 288 0 0 (by omega) (fun v _ => ⟨fun a => absurd ((b_0 v).symm.trans a) (by decide), fun ⟨j, hj, _⟩ => absurd hj (by omega)⟩))
theorem xa_bt {post : Int32 → Prop} {s : Nat} (hs : s + 16 ≤ 288) (hb : ∀ j, j < 288 → ∃ b, b < 32 ∧ hd j = nI b)
    (h : ∀ x, (∀ v, v < 32 → (bt x v = true ↔ rr_has hd s 16 v)) → post x) :
    ∀ d i x, i + d = 16 → (∀ v, v < 32 → (bt x v = true ↔ rr_has hd s i v)) → wX_blocksOfTree_12 post (nI s) bl up nn pn xn hd sn vb (d + 1) x (nI i) := by
  intro d
  induction d with
  | zero =>
    intro i x hi hx
    have e : i = 16 := by omega
    subst e
    exact br_t (nI_le (a := 16) (b := 16) (by omega) (by omega)) (h x hx)
  | succ d ih =>
    intro i x hi hx
    have hge : ¬ (16 : Int32) ≤ nI i := nI_ge (b := 16) (by omega) (by omega)
    have e1 : nI s + nI i = nI (s + i) := nI_add s i
    obtain ⟨b, hb1, e⟩ := hb (s + i) (by omega)
    refine br_f hge ⟨by rw [e1]; exact vp_in_nI (by omega) (by omega), nm_r (e' := x ||| ((1 : Int32) <<< (nI b &&& 31))) (by rw [e1, nI_clamp (by omega), e]) (nm_r (nI_1 i) (ih (i + 1) _ (by omega) (fun v hv => ?_)))⟩
    rw [bb_or x hb1 hv, hx v hv]
    constructor
    · rintro (⟨j, hj, c⟩ | a)
      · exact ⟨j, by omega, c⟩
      · subst a; exact ⟨i, by omega, e⟩
    · rintro ⟨j, hj, c⟩
      by_cases k : j = i
      · subst k
        rw [e, nI_eq (by omega) (by omega)] at c
        exact Or.inr c.symm
      · exact Or.inl ⟨j, by omega, c⟩
theorem xp_bt {post : Int32 → Prop} {v t : Nat} (hv : v < 2) (ht : t < 3) (hb : ∀ j, j < 288 → ∃ b, b < 32 ∧ hd j = nI b)
    (h : ∀ x, (∀ w, w < 32 → (bt x w = true ↔ rr_has hd (48 * v + 16 * t) 16 w)) → post x) :
    wpX_blocksOfTree post (bl, up, nn, pn, xn, hd, sn, vb) (nI v) (nI t) := by
  unfold wpX_blocksOfTree
  exact gx_ts (Exists.intro 17 (xa_bt (by omega) hb h 16 0 0 (by omega) (fun w _ => ⟨fun a => absurd ((b_0 w).symm.trans a) (by decide), fun ⟨j, hj, _⟩ => absurd hj (by omega)⟩)))
theorem xa_sz {post : Int32 → Prop} {x : Int32} (h : post (nI (cc_n (fun v => v ≠ 0 ∧ bt x v = true) 25))) :
    ∀ d i, i + d = 25 → 1 ≤ i → wX_sizeOf_4 post x (d + 1) (nI (cc_n (fun v => v ≠ 0 ∧ bt x v = true) i)) (nI i) := by
  intro d
  induction d with
  | zero =>
    intro i hi _
    have e : i = 25 := by omega
    subst e
    exact br_t (nI_lt (a := 24) (b := 25) (by omega) (by omega)) h
  | succ d ih =>
    intro i hi h1
    have hn : ¬ (24 : Int32) < nI i := nI_nlt (b := i) (a := 24) (by omega) (by omega)
    have k := ih (i + 1) (by omega) (by omega)
    by_cases g : bt x i = true
    · rw [cc_t (p := fun v => v ≠ 0 ∧ bt x v = true) ⟨by omega, g⟩] at k
      exact br_f hn (br_f (fun z => (bb_test x (by omega)).mp z g) (nm_r (nI_1 _) (nm_r (nI_1 i) k)))
    · rw [cc_f (p := fun v => v ≠ 0 ∧ bt x v = true) (fun z => g z.2)] at k
      exact br_f hn (br_t ((bb_test x (by omega)).mpr g) (nm_r (nI_1 i) k))
theorem xp_sz {post : Int32 → Prop} {x : Int32} (h : post (nI (cc_n (fun v => v ≠ 0 ∧ bt x v = true) 25))) : wpX_sizeOf post x := by
  have e := xa_sz h 24 1 (by omega) (by omega)
  rw [cc_f (p := fun v => v ≠ 0 ∧ bt x v = true) (fun z => z.1 rfl)] at e
  exact Exists.intro 25 e
theorem xa_fb {post : Int32 → Prop} {x : Int32} {B : Nat} (hB : B ≤ 24) (h1 : ∀ b, ¬ b = 0 → b ≤ B → ¬ bt x b = true → post (nI b)) (h2 : (∀ v, ¬ v = 0 → v ≤ B → bt x v = true) → post 0) :
    ∀ d i, i + d = B + 1 → 1 ≤ i → (∀ v, ¬ v = 0 → v < i → bt x v = true) → wX_freeBlock_2 post x (nI B) up nn pn xn hd sn vb (d + 1) (nI i) := by
  intro d
  induction d with
  | zero =>
    intro i hi _ hv
    exact br_t (nI_lt (by omega) (by omega)) (h2 (fun v a b => hv v a (by omega)))
  | succ d ih =>
    intro i hi hi1 hv
    by_cases g : bt x i = true
    · refine br_f (nI_nlt (by omega) (by omega)) (br_f (fun z => (bb_test x (by omega)).mp z g) (nm_r (nI_1 i) (ih (i + 1) (by omega) (by omega) (fun v a b => ?_))))
      by_cases k : v = i
      · rw [k]; exact g
      · exact hv v a (by omega)
    · exact br_f (nI_nlt (by omega) (by omega)) (br_t ((bb_test x (by omega)).mpr g) (h1 i (by omega) (by omega) g))
theorem xp_fb {post : Int32 → Prop} {x : Int32} {B : Nat} (hB : B ≤ 24) (h1 : ∀ b, ¬ b = 0 → b ≤ B → ¬ bt x b = true → post (nI b)) (h2 : (∀ v, ¬ v = 0 → v ≤ B → bt x v = true) → post 0) :
    wpX_freeBlock post (nI B, up, nn, pn, xn, hd, sn, vb) x :=
  Exists.intro (B + 1) (xa_fb hB h1 h2 B 1 (by omega) (by omega) (fun v a b => absurd b (by omega)))
/-- the blocks in use, counted -/
theorem xp_iu {post : Int32 → Prop} (hb : ∀ j, j < 288 → ∃ b, b < 32 ∧ hd j = nI b) (h : post (nI (cc_n (fun v => v ≠ 0 ∧ rr_has hd 0 288 v ∧ True) 25))) :
    wpX_countInUse post (bl, up, nn, pn, xn, hd, sn, vb) := by
  unfold wpX_countInUse
  refine xp_bw hb (fun x hx => xp_sz ?_)
  have e : cc_n (fun v => v ≠ 0 ∧ bt x v = true) 25 = cc_n (fun v => v ≠ 0 ∧ rr_has hd 0 288 v ∧ True) 25 := by
    refine cc_ext 25 (fun v hv => ?_)
    rw [hx v (by omega)]
    constructor
    · rintro ⟨a, j, hj, _, e⟩
      exact ⟨a, ⟨j, hj, by rw [Nat.zero_add]; exact e⟩, trivial⟩
    · rintro ⟨a, ⟨j, hj, e⟩, _⟩
      rw [Nat.zero_add] at e
      refine ⟨a, j, hj, ?_, e⟩
      intro z
      have p := nI_pos (n := j) (by omega)
      rw [z] at p
      exact p (by decide)
  rw [e]
  exact h
end XS
