section XL
variable {bl up nn pn xn : Int32} {hd sn vb : Nat → Int32}
/-! numbers and guards -/
theorem gg_i1 : ¬ (1 : Int32) = 0 := by decide
def gg_out (x : Int32) (n : Nat) : Prop := x < 0 ∨ nI n ≤ x
theorem gg_in {x : Int32} {n : Nat} (hn : n < 2 ^ 31) (h : ¬ gg_out x n) : ∃ j, j < n ∧ x = nI j := by
  rcases pk_ix x hn with a | a | a
  · exact absurd (Or.inl a) h
  · exact absurd (Or.inr a) h
  · exact a
theorem gg_ni {j n : Nat} (h : j < n) (hn : n < 2 ^ 31) : ¬ gg_out (nI j) n := by
  rintro (a | a)
  · exact nI_pos (by omega) a
  · exact nI_ge h hn a
/-- a snapshot's name: 1 or 2 -/
def gg_sn (x : Int32) : Prop := x ≤ 0 ∨ nI 3 ≤ x
theorem gg_le0 {x : Int32} (h : x ≤ 0) : x = 0 ∨ x < 0 := by
  by_cases g : x < 0
  · exact Or.inr g
  · obtain ⟨j, hj, rfl⟩ := nI_of g
    have e : nI j ≤ nI 0 := h
    rw [nI_leI hj (by omega)] at e
    have e2 : j = 0 := by omega
    rw [e2]; exact Or.inl rfl
theorem gg_snIn {x : Int32} (h : ¬ gg_sn x) : ∃ t, 1 ≤ t ∧ t < 3 ∧ x = nI t := by
  have h1 : ¬ gg_out x 3 := by
    rintro (a | a)
    · exact h (Or.inl (Int32.le_of_lt a))
    · exact h (Or.inr a)
  obtain ⟨t, ht, rfl⟩ := gg_in (by omega) h1
  refine ⟨t, ?_, ht, rfl⟩
  rcases Nat.eq_zero_or_pos t with e | e
  · subst e; exact absurd (Or.inl (nI_le (a := 0) (b := 0) (by omega) (by omega))) h
  · exact e
theorem gg_snOut {x : Int32} (h : gg_sn x) : x = 0 ∨ gg_out x 3 := by
  rcases h with a | a
  · rcases gg_le0 a with b | b
    · exact Or.inl b
    · exact Or.inr (Or.inl b)
  · exact Or.inr (Or.inr a)
theorem gg_vb {x : Int32} (h : x = 0 ∨ x = 1) : vp_nar .boolean x = x := by
  rcases h with e | e <;> subst e <;> rfl
theorem gx_vol {P : Int32 → Prop} (x : Int32) (f : gg_out x 2 → P 0) (g : ¬ gg_out x 2 → P 1) : wpX_isVolume P x :=
  br_c (fun a => f (Or.inl a)) (fun a => br_c (fun b => f (Or.inr b)) (fun b => g (fun z => z.elim a b)))
theorem gx_file {P : Int32 → Prop} (x : Int32) (f : gg_out x 4 → P 0) (g : ¬ gg_out x 4 → P 1) : wpX_isFile P x :=
  br_c (fun a => f (Or.inl a)) (fun a => br_c (fun b => f (Or.inr b)) (fun b => g (fun z => z.elim a b)))
theorem gx_place {P : Int32 → Prop} (x : Int32) (f : gg_out x 4 → P 0) (g : ¬ gg_out x 4 → P 1) : wpX_isPlace P x :=
  br_c (fun a => f (Or.inl a)) (fun a => br_c (fun b => f (Or.inr b)) (fun b => g (fun z => z.elim a b)))
theorem gx_tree {P : Int32 → Prop} (x : Int32) (f : gg_out x 3 → P 0) (g : ¬ gg_out x 3 → P 1) : wpX_isTree P x :=
  br_c (fun a => f (Or.inl a)) (fun a => br_c (fun b => f (Or.inr b)) (fun b => g (fun z => z.elim a b)))
theorem gx_snap {P : Int32 → Prop} (x : Int32) (f : gg_sn x → P 0) (g : ¬ gg_sn x → P 1) : wpX_isSnapshotName P x :=
  br_c (fun a => f (Or.inl a)) (fun a => br_c (fun b => f (Or.inr b)) (fun b => g (fun z => z.elim a b)))
theorem gx_v1 {P : Int32 → Prop} {v : Nat} (h : v < 2) (p : P 1) : wpX_isVolume P (nI v) := gx_vol _ (fun a => absurd a (gg_ni h (by omega))) (fun _ => p)
theorem gx_f1 {P : Int32 → Prop} {v : Nat} (h : v < 4) (p : P 1) : wpX_isFile P (nI v) := gx_file _ (fun a => absurd a (gg_ni h (by omega))) (fun _ => p)
theorem gx_p1 {P : Int32 → Prop} {v : Nat} (h : v < 4) (p : P 1) : wpX_isPlace P (nI v) := gx_place _ (fun a => absurd a (gg_ni h (by omega))) (fun _ => p)
theorem gx_t1 {P : Int32 → Prop} {v : Nat} (h : v < 3) (p : P 1) : wpX_isTree P (nI v) := gx_tree _ (fun a => absurd a (gg_ni h (by omega))) (fun _ => p)
theorem gx_s1 {P : Int32 → Prop} {v : Nat} (h0 : 1 ≤ v) (h : v < 3) (p : P 1) : wpX_isSnapshotName P (nI v) :=
  gx_snap _ (fun a => absurd a (fun z => z.elim (nI_nle (by omega) (by omega)) (nI_ge h (by omega)))) (fun _ => p)
/-! where a tree, a file, a snapshot's mark lies -/
theorem gx_ts {P : Int32 → Prop} {v t : Nat} (h : P (nI (48 * v + 16 * t))) : wpX_treeStart P (nI v) (nI t) := by
  have e : ((0 + (nI v * 48)) + (nI t * 16)) = nI (48 * v + 16 * t) := by
    show ((nI 0 + (nI v * nI 48)) + (nI t * nI 16)) = _
    rw [pk_mul, pk_mul, nI_add, nI_add]
    exact congrArg nI (by omega)
  unfold wpX_treeStart
  rw [e]; exact h
theorem gx_fs {P : Int32 → Prop} {v f : Nat} (h : P (nI (48 * v + 4 * f))) : wpX_fileStart P (nI v) (nI f) := by
  unfold wpX_fileStart
  refine gx_ts (t := 0) ?_
  have e : nI (48 * v + 16 * 0) + (nI f * 4) = nI (48 * v + 4 * f) := by
    show nI (48 * v + 16 * 0) + (nI f * nI 4) = _
    rw [pk_mul, nI_add]
    exact congrArg nI (by omega)
  show P (nI (48 * v + 16 * 0) + (nI f * 4))
  rw [e]; exact h
theorem gx_si {P : Int32 → Prop} {v t : Nat} (ht : 1 ≤ t) (h : P (nI (2 * v + (t - 1)))) : wpX_snapshotIndex P (nI v) (nI t) := by
  have e : (((0 + (nI v * 2)) + nI t) - 1) = nI (2 * v + (t - 1)) := by
    show (((nI 0 + (nI v * nI 2)) + nI t) - nI 1) = _
    rw [pk_mul, nI_add, nI_add, pk_sub (by omega)]
    exact congrArg nI (by omega)
  unfold wpX_snapshotIndex
  rw [e]; exact h
theorem gx_ht {P : Int32 → Prop} {v t : Nat} (hv : v < 2) (ht : t < 3) (hy : (t = 0 ∨ ¬ sn (2 * v + (t - 1)) = 0) → P 1) (hn : ¬ t = 0 → sn (2 * v + (t - 1)) = 0 → P 0) :
    wpX_hasTree P (bl, up, nn, pn, xn, hd, sn, vb) (nI v) (nI t) := by
  unfold wpX_hasTree
  by_cases g : t = 0
  · subst g; exact br_t rfl (hy (Or.inl rfl))
  · refine br_f (nI_ne0 (by omega) (by omega)) (gx_si (by omega) ⟨vp_in_nI (by omega) (by omega), ?_⟩)
    rw [nI_clamp (by omega)]
    exact br_c (fun a => hn g a) (fun a => hy (Or.inr a))
theorem gx_mk {P : SX → Prop} {v t : Nat} {x : Int32} (hv : v < 2) (h1 : 1 ≤ t) (ht : t < 3) (hx : x = 0 ∨ x = 1) (h : P (bl, up, nn, pn, xn, hd, upd sn (2 * v + (t - 1)) x, vb)) :
    wpX_markSnapshot P (bl, up, nn, pn, xn, hd, sn, vb) (nI v) (nI t) x := by
  unfold wpX_markSnapshot
  refine gx_si h1 ⟨vp_in_nI (by omega) (by omega), nm_r ?_ h⟩
  rw [nI_clamp (by omega), gg_vb hx]
/-! loops over the places -/
theorem xa_cp {post : SX → Prop} {s t c : Nat} (hs : s + c ≤ 288) (ht : t + c ≤ 288) (ok : aa_ok s t c) (h : post (bl, up, nn, pn, xn, aa_cp hd s t c, sn, vb)) :
    ∀ d i, i + d = c → wX_copyPlaces_3 post (nI s) (nI t) (nI c) bl up nn pn xn (d + 1) (nI i) (aa_cp hd s t i) sn vb := by
  intro d
  induction d with
  | zero =>
    intro i hi
    have e : i = c := by omega
    subst e
    exact br_t (nI_le (Nat.le_refl _) (by omega)) h
  | succ d ih =>
    intro i hi
    have e1 : nI s + nI i = nI (s + i) := nI_add s i
    have e2 : nI t + nI i = nI (t + i) := nI_add t i
    refine br_f (nI_ge (by omega) (by omega)) ⟨?_, ?_, nm_r ?_ (nm_r (nI_1 i) (ih (i + 1) (by omega)))⟩
    · rw [e1]; exact vp_in_nI (by omega) (by omega)
    · rw [e2]; exact vp_in_nI (by omega) (by omega)
    · rw [e1, e2, nI_clamp (by omega), nI_clamp (by omega), aa_uI, aa_cpS hd ok (by omega)]
theorem xp_cp {post : SX → Prop} {s t c : Nat} (hs : s + c ≤ 288) (ht : t + c ≤ 288) (ok : aa_ok s t c) (h : post (bl, up, nn, pn, xn, aa_cp hd s t c, sn, vb)) :
    wpX_copyPlaces post (bl, up, nn, pn, xn, hd, sn, vb) (nI s) (nI t) (nI c) := by
  have e := xa_cp hs ht ok h c 0 (by omega)
  rw [aa_cp0] at e
  exact Exists.intro (c + 1) e
theorem xa_cl {post : SX → Prop} {s c : Nat} (hs : s + c ≤ 288) (h : post (bl, up, nn, pn, xn, aa_cl 0 hd s c, sn, vb)) :
    ∀ d i, i + d = c → wX_clearPlaces_2 post (nI s) (nI c) bl up nn pn xn (d + 1) (nI i) (aa_cl 0 hd s i) sn vb := by
  intro d
  induction d with
  | zero =>
    intro i hi
    have e : i = c := by omega
    subst e
    exact br_t (nI_le (Nat.le_refl _) (by omega)) h
  | succ d ih =>
    intro i hi
    have e1 : nI s + nI i = nI (s + i) := nI_add s i
    refine br_f (nI_ge (by omega) (by omega)) ⟨?_, nm_r ?_ (nm_r (nI_1 i) (ih (i + 1) (by omega)))⟩
    · rw [e1]; exact vp_in_nI (by omega) (by omega)
    · rw [e1, nI_clamp (by omega), aa_uI, aa_clS]
theorem xp_cl {post : SX → Prop} {s c : Nat} (hs : s + c ≤ 288) (h : post (bl, up, nn, pn, xn, aa_cl 0 hd s c, sn, vb)) :
    wpX_clearPlaces post (bl, up, nn, pn, xn, hd, sn, vb) (nI s) (nI c) := by
  have e := xa_cl hs h c 0 (by omega)
  rw [aa_cl0] at e
  exact Exists.intro (c + 1) e
theorem xa_ch {post : Int32 → Prop} {s c : Nat} (hs : s + c ≤ 288) (h : post (nI (cc_n (fun j => ¬ hd (s + j) = 0) c))) :
    ∀ d i, i + d = c → wX_countHeld_5 post (nI s) (nI c) bl up nn pn xn hd sn vb (d + 1) (nI (cc_n (fun j => ¬ hd (s + j) = 0) i)) (nI i) := by
  intro d
  induction d with
  | zero =>
    intro i hi
    have e : i = c := by omega
    subst e
    exact br_t (nI_le (Nat.le_refl _) (by omega)) h
  | succ d ih =>
    intro i hi
    have e1 : nI s + nI i = nI (s + i) := nI_add s i
    have e2 : (nI s + nI i).toNatClampNeg = s + i := by rw [e1, nI_clamp (by omega)]
    have v1 : vp_in (nI s + nI i) 288 := by rw [e1]; exact vp_in_nI (by omega) (by omega)
    have k := ih (i + 1) (by omega)
    by_cases g : hd (s + i) = 0
    · rw [cc_f (p := fun j => ¬ hd (s + j) = 0) (fun z => z g)] at k
      exact br_f (nI_ge (by omega) (by omega)) ⟨v1, br_t (by rw [e2]; exact g) (nm_r (nI_1 i) k)⟩
    · rw [cc_t (p := fun j => ¬ hd (s + j) = 0) g] at k
      exact br_f (nI_ge (by omega) (by omega)) ⟨v1, br_f (by rw [e2]; exact g) (nm_r (nI_1 _) (nm_r (nI_1 i) k))⟩
theorem xp_ch {post : Int32 → Prop} {s c : Nat} (hs : s + c ≤ 288) (h : post (nI (cc_n (fun j => ¬ hd (s + j) = 0) c))) :
    wpX_countHeld post (bl, up, nn, pn, xn, hd, sn, vb) (nI s) (nI c) :=
  Exists.intro (c + 1) (xa_ch hs h c 0 (by omega))
/-! swap's loop -/
theorem xa_sw {post : Int32 → SX → Prop} {x y : Nat} {p q : Int32} (hx : x + 4 ≤ 288) (hy : y + 4 ≤ 288) (ok : aa_ok x y 4)
    (h0 : p = q → post 0 (bl, up, nn, pn, xn, aa_sw hd x y 4, sn, vb)) (h1 : ¬ p = q → post 1 (bl, up, nn, pn, xn, aa_sw hd x y 4, sn, vb)) :
    ∀ d i, i + d = 4 → wX_swap_47 post p q (nI x) (nI y) bl up nn pn xn (d + 1) (nI i) (aa_sw hd x y i) sn vb := by
  intro d
  induction d with
  | zero =>
    intro i hi
    have e : i = 4 := by omega
    subst e
    exact br_t (nI_le (a := 4) (b := 4) (by omega) (by omega)) (br_c h0 h1)
  | succ d ih =>
    intro i hi
    have e1 : nI x + nI i = nI (x + i) := nI_add x i
    have e2 : nI y + nI i = nI (y + i) := nI_add y i
    have c1 : (nI x + nI i).toNatClampNeg = x + i := by rw [e1, nI_clamp (by omega)]
    have c2 : (nI y + nI i).toNatClampNeg = y + i := by rw [e2, nI_clamp (by omega)]
    have v1 : vp_in (nI x + nI i) 288 := by rw [e1]; exact vp_in_nI (by omega) (by omega)
    have v2 : vp_in (nI y + nI i) 288 := by rw [e2]; exact vp_in_nI (by omega) (by omega)
    refine br_f (nI_ge (b := 4) (by omega) (by omega)) ⟨v1, nm_e ⟨v2, v1, nm_e ⟨v2, nm_r ?_ (nm_r (nI_1 i) (ih (i + 1) (by omega)))⟩⟩⟩
    rw [c1, c2, aa_uI, aa_uI, aa_swS hd ok (by omega)]
end XL
