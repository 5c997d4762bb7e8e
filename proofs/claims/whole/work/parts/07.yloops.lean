section YL
variable {nx bk : Int32} {sc : Int64} {sp : Nat → Int64} {vl hs th nu : Nat → Int32}
theorem gy_out {P : Int32 → Prop} (x : Int32) (n : Nat) (f : gg_out x n → P 1) (g : ¬ gg_out x n → P 0) : wpY_out P x (nI n) :=
  br_c (fun a => f (Or.inl a)) (fun a => br_c (fun b => g (fun z => z.elim a (fun c => Int32.not_le.mpr b c))) (fun b => f (Or.inr (Int32.not_lt.mp b))))
theorem gy_1 {P : Int32 → Prop} {v : Nat} (n : Nat) (h : v < n) (hn : n < 2 ^ 31) (p : P 0) : wpY_out P (nI v) (nI n) := gy_out _ n (fun a => absurd a (gg_ni h hn)) (fun _ => p)
theorem gy_sp {P : SY → Prop} {t s : Nat} (ht : t < 288) (hs' : s < 288) (h : P (nx, sc, bk, aa_u sp t (sp s), aa_u vl t (vl s), hs, th, nu)) :
    wpY_setPlace P (nx, sc, bk, sp, vl, hs, th, nu) (nI t) (nI s) := by
  unfold wpY_setPlace
  have v1 : vp_in (nI t) 288 := vp_in_nI ht (by omega)
  have v2 : vp_in (nI s) 288 := vp_in_nI hs' (by omega)
  have c1 : (nI t).toNatClampNeg = t := nI_clamp (by omega)
  have c2 : (nI s).toNatClampNeg = s := nI_clamp (by omega)
  exact ⟨v2, v1, nm_r (by rw [c1, c2]; rfl) ⟨v2, v1, nm_r (by rw [c1, c2]; rfl) h⟩⟩
/-! a state copied, a state cleared -/
theorem ya_c6 {post : SY → Prop} {a b : Nat} (ha : a < 3) (hb : b < 3) (ok : aa_ok (6 * a) (6 * b) 6) (h01 : ∀ j, hs j = 0 ∨ hs j = 1) (t01 : ∀ j, th j = 0 ∨ th j = 1)
    (h : post (nx, sc, bk, sp, vl, aa_cp hs (6 * a) (6 * b) 6, upd th b (th a), upd nu b (nu a))) :
    ∀ d i, i + d = 6 → wY_copyState_60 post (nI a) (nI b) nx sc bk (d + 1) (nI i) sp vl (aa_cp hs (6 * a) (6 * b) i) th nu := by
  have va : vp_in (nI a) 3 := vp_in_nI ha (by omega)
  have vb : vp_in (nI b) 3 := vp_in_nI hb (by omega)
  have ca : (nI a).toNatClampNeg = a := nI_clamp (by omega)
  have cb : (nI b).toNatClampNeg = b := nI_clamp (by omega)
  intro d
  induction d with
  | zero =>
    intro i hi
    have e : i = 6 := by omega
    subst e
    exact br_t (nI_le (a := 6) (b := 6) (by omega) (by omega)) ⟨va, vb, nm_r (by rw [ca, cb, gg_vb (t01 a)]) ⟨va, vb, nm_r (by rw [ca, cb]) h⟩⟩
  | succ d ih =>
    intro i hi
    have e1 : (6 * nI a) + nI i = nI (6 * a + i) := by
      show (nI 6 * nI a) + nI i = _
      rw [pk_mul, nI_add]
    have e2 : (6 * nI b) + nI i = nI (6 * b + i) := by
      show (nI 6 * nI b) + nI i = _
      rw [pk_mul, nI_add]
    have z : aa_cp hs (6 * a) (6 * b) i (6 * a + i) = 0 ∨ aa_cp hs (6 * a) (6 * b) i (6 * a + i) = 1 := by
      rw [aa_cpR hs ok (by omega)]; exact h01 _
    refine br_f (nI_ge (b := 6) (by omega) (by omega)) ⟨?_, ?_, nm_r ?_ (nm_r (nI_1 i) (ih (i + 1) (by omega)))⟩
    · rw [e1]; exact vp_in_nI (by omega) (by omega)
    · rw [e2]; exact vp_in_nI (by omega) (by omega)
    · rw [e1, e2, nI_clamp (by omega), nI_clamp (by omega), gg_vb z, aa_uI, aa_cpS hs ok (by omega)]
theorem ya_c2 {post : SY → Prop} {a b : Nat} (ha : a < 3) (hb : b < 3) (ok : aa_ok (96 * a) (96 * b) 96) (h01 : ∀ j, hs j = 0 ∨ hs j = 1) (t01 : ∀ j, th j = 0 ∨ th j = 1)
    (h : post (nx, sc, bk, aa_cp sp (96 * a) (96 * b) 96, aa_cp vl (96 * a) (96 * b) 96, aa_cp hs (6 * a) (6 * b) 6, upd th b (th a), upd nu b (nu a))) :
    ∀ d i, i + d = 96 → wY_copyState_2 post (nI a) (nI b) nx sc bk (d + 1) (nI i) (aa_cp sp (96 * a) (96 * b) i) (aa_cp vl (96 * a) (96 * b) i) hs th nu := by
  intro d
  induction d with
  | zero =>
    intro i hi
    have e : i = 96 := by omega
    subst e
    have k := ya_c6 ha hb (by unfold aa_ok at ok ⊢; omega) h01 t01 h 6 0 (by omega)
    rw [aa_cp0] at k
    exact br_t (nI_le (a := 96) (b := 96) (by omega) (by omega)) (Exists.intro 7 k)
  | succ d ih =>
    intro i hi
    have e1 : (96 * nI a) + nI i = nI (96 * a + i) := by
      show (nI 96 * nI a) + nI i = _
      rw [pk_mul, nI_add]
    have e2 : (96 * nI b) + nI i = nI (96 * b + i) := by
      show (nI 96 * nI b) + nI i = _
      rw [pk_mul, nI_add]
    have v1 : vp_in ((96 * nI a) + nI i) 288 := by rw [e1]; exact vp_in_nI (by omega) (by omega)
    have v2 : vp_in ((96 * nI b) + nI i) 288 := by rw [e2]; exact vp_in_nI (by omega) (by omega)
    refine br_f (nI_ge (b := 96) (by omega) (by omega)) ⟨v1, v2, nm_r ?_ ⟨v1, v2, nm_r ?_ (nm_r (nI_1 i) (ih (i + 1) (by omega)))⟩⟩
    · rw [e1, e2, nI_clamp (by omega), nI_clamp (by omega), aa_uL, aa_cpS sp ok (by omega)]
    · rw [e1, e2, nI_clamp (by omega), nI_clamp (by omega), aa_uI, aa_cpS vl ok (by omega)]
theorem yp_cs {post : SY → Prop} {a b : Nat} (ha : a < 3) (hb : b < 3) (h01 : ∀ j, hs j = 0 ∨ hs j = 1) (t01 : ∀ j, th j = 0 ∨ th j = 1)
    (h : post (nx, sc, bk, aa_cp sp (96 * a) (96 * b) 96, aa_cp vl (96 * a) (96 * b) 96, aa_cp hs (6 * a) (6 * b) 6, upd th b (th a), upd nu b (nu a))) :
    wpY_copyState post (nx, sc, bk, sp, vl, hs, th, nu) (nI a) (nI b) := by
  have k := ya_c2 ha hb (by unfold aa_ok; omega) h01 t01 h 96 0 (by omega)
  rw [aa_cp0, aa_cp0] at k
  exact Exists.intro 97 k
theorem ya_z6 {post : SY → Prop} {a : Nat} (ha : a < 3) (h : post (nx, sc, bk, sp, vl, aa_cl 0 hs (6 * a) 6, upd th a 0, upd nu a 0)) :
    ∀ d i, i + d = 6 → wY_clearState_34 post (nI a) nx sc bk (d + 1) (nI (6 * a + i)) sp vl (aa_cl 0 hs (6 * a) i) th nu := by
  have va : vp_in (nI a) 3 := vp_in_nI ha (by omega)
  have ca : (nI a).toNatClampNeg = a := nI_clamp (by omega)
  have e1 : (6 * nI a) + 6 = nI (6 * a + 6) := by
    show (nI 6 * nI a) + nI 6 = _
    rw [pk_mul, nI_add]
  intro d
  induction d with
  | zero =>
    intro i hi
    have e : i = 6 := by omega
    subst e
    exact br_t (by rw [e1]; exact nI_le (by omega) (by omega)) ⟨va, nm_r (by rw [ca, gg_vb (Or.inl rfl)]) ⟨va, nm_r (by rw [ca]) h⟩⟩
  | succ d ih =>
    intro i hi
    refine br_f (by rw [e1]; exact nI_ge (by omega) (by omega)) ⟨vp_in_nI (by omega) (by omega), nm_r ?_ (nm_r (nI_1 (6 * a + i)) (ih (i + 1) (by omega)))⟩
    rw [nI_clamp (by omega), gg_vb (Or.inl rfl), aa_uI, aa_clS]
theorem ya_z5 {post : SY → Prop} {a : Nat} (ha : a < 3) (h : post (nx, sc, bk, aa_cl 0 sp (96 * a) 96, vl, aa_cl 0 hs (6 * a) 6, upd th a 0, upd nu a 0)) :
    ∀ d i, i + d = 96 → wY_clearState_5 post (nI a) nx sc bk (d + 1) (nI (96 * a + i)) (aa_cl 0 sp (96 * a) i) vl hs th nu := by
  have e1 : (96 * nI a) + 96 = nI (96 * a + 96) := by
    show (nI 96 * nI a) + nI 96 = _
    rw [pk_mul, nI_add]
  have e2 : 6 * nI a = nI (6 * a + 0) := by
    show nI 6 * nI a = _
    rw [pk_mul]; rfl
  intro d
  induction d with
  | zero =>
    intro i hi
    have e : i = 96 := by omega
    subst e
    have k := ya_z6 ha h 6 0 (by omega)
    rw [aa_cl0] at k
    exact br_t (by rw [e1]; exact nI_le (by omega) (by omega)) (nm_r e2 (Exists.intro 7 k))
  | succ d ih =>
    intro i hi
    refine br_f (by rw [e1]; exact nI_ge (by omega) (by omega)) ⟨vp_in_nI (by omega) (by omega), nm_r ?_ (nm_r (nI_1 (96 * a + i)) (ih (i + 1) (by omega)))⟩
    rw [nI_clamp (by omega), aa_uL, aa_clS]
theorem yp_zs {post : SY → Prop} {a : Nat} (ha : a < 3) (h : post (nx, sc, bk, aa_cl 0 sp (96 * a) 96, vl, aa_cl 0 hs (6 * a) 6, upd th a 0, upd nu a 0)) :
    wpY_clearState post (nx, sc, bk, sp, vl, hs, th, nu) (nI a) := by
  have e2 : 96 * nI a = nI (96 * a + 0) := by
    show nI 96 * nI a = _
    rw [pk_mul]; rfl
  have k := ya_z5 ha h 96 0 (by omega)
  rw [aa_cl0] at k
  unfold wpY_clearState
  exact nm_r e2 (Exists.intro 97 k)
/-! counts -/
theorem ya_fl {post : Int32 → Prop} {s c : Nat} (hs' : s + c ≤ 288) (h : post (nI (cc_n (fun j => ¬ sp (s + j) = 0) c))) :
    ∀ d i, i + d = c → wY_filled_5 post (nI s) (nI c) nx sc bk sp vl hs th nu (d + 1) (nI (cc_n (fun j => ¬ sp (s + j) = 0) i)) (nI (s + i)) := by
  have e1 : nI s + nI c = nI (s + c) := nI_add s c
  intro d
  induction d with
  | zero =>
    intro i hi
    have e : i = c := by omega
    subst e
    exact br_t (by rw [e1]; exact nI_le (by omega) (by omega)) h
  | succ d ih =>
    intro i hi
    have e2 : (nI (s + i)).toNatClampNeg = s + i := nI_clamp (by omega)
    have v1 : vp_in (nI (s + i)) 288 := vp_in_nI (by omega) (by omega)
    have hn : ¬ nI s + nI c ≤ nI (s + i) := by rw [e1]; exact nI_ge (by omega) (by omega)
    have k := ih (i + 1) (by omega)
    by_cases g : sp (s + i) = 0
    · rw [cc_f (p := fun j => ¬ sp (s + j) = 0) (fun z => z g)] at k
      exact br_f hn ⟨v1, br_t (by rw [e2]; exact g) (nm_r (Int32.add_zero _) (nm_r (nI_1 (s + i)) k))⟩
    · rw [cc_t (p := fun j => ¬ sp (s + j) = 0) g] at k
      exact br_f hn ⟨v1, br_f (by rw [e2]; exact g) (nm_r (nI_1 _) (nm_r (nI_1 (s + i)) k))⟩
theorem yp_fl {post : Int32 → Prop} {s c : Nat} (hs' : s + c ≤ 288) (h : post (nI (cc_n (fun j => ¬ sp (s + j) = 0) c))) :
    wpY_filled post (nx, sc, bk, sp, vl, hs, th, nu) (nI s) (nI c) :=
  Exists.intro (c + 1) (ya_fl hs' h c 0 (by omega))
theorem ya_held {post : Int32 → Prop} {x : Int64} {a c : Nat} (he : a + c ≤ 288) (h1 : (∃ j, j < c ∧ sp (a + j) = x) → post 1) (h0 : ¬ (∃ j, j < c ∧ sp (a + j) = x) → post 0) :
    ∀ d i, i + d = c → (∀ j, j < i → ¬ sp (a + j) = x) → wY_heldIn_3 post x (nI (a + c)) nx sc bk sp vl hs th nu (d + 1) (nI (a + i)) := by
  intro d
  induction d with
  | zero =>
    intro i hi hj
    have e : i = c := by omega
    subst e
    exact br_t (nI_le (by omega) (by omega)) (h0 (fun ⟨j, hj1, e⟩ => hj j hj1 e))
  | succ d ih =>
    intro i hi hj
    have e2 : (nI (a + i)).toNatClampNeg = a + i := nI_clamp (by omega)
    have v1 : vp_in (nI (a + i)) 288 := vp_in_nI (by omega) (by omega)
    by_cases g : sp (a + i) = x
    · exact br_f (nI_ge (by omega) (by omega)) ⟨v1, br_t (by rw [e2]; exact g) (h1 ⟨i, by omega, g⟩)⟩
    · refine br_f (nI_ge (by omega) (by omega)) ⟨v1, br_f (by rw [e2]; exact g) (nm_r (nI_1 (a + i)) (ih (i + 1) (by omega) (fun j hj1 => ?_)))⟩
      by_cases k : j = i
      · rw [k]; exact g
      · exact hj j (by omega)
theorem yp_hi {post : Int32 → Prop} {x : Int64} {a b c : Nat} (hb : b = a + c) (he : a + c ≤ 288) (h1 : (∃ j, j < c ∧ sp (a + j) = x) → post 1) (h0 : ¬ (∃ j, j < c ∧ sp (a + j) = x) → post 0) :
    wpY_heldIn post (nx, sc, bk, sp, vl, hs, th, nu) x (nI a) (nI b) := by
  subst hb
  exact Exists.intro (c + 1) (ya_held he h1 h0 c 0 (by omega) (fun j hj => absurd hj (by omega)))
theorem ya_iu {post : Int32 → Prop} (h : post (nI (cc_n (rr_fst sp 0 (fun _ => True)) 288))) :
    ∀ d i, i + d = 288 → wY_inUse_4 post nx sc bk sp vl hs th nu (d + 1) (nI (cc_n (rr_fst sp 0 (fun _ => True)) i)) (nI i) := by
  intro d
  induction d with
  | zero =>
    intro i hi
    have e : i = 288 := by omega
    subst e
    exact br_t (nI_le (a := 288) (b := 288) (by omega) (by omega)) h
  | succ d ih =>
    intro i hi
    have e2 : (nI i).toNatClampNeg = i := nI_clamp (by omega)
    have v1 : vp_in (nI i) 288 := vp_in_nI (by omega) (by omega)
    have hn : ¬ (288 : Int32) ≤ nI i := nI_ge (b := 288) (by omega) (by omega)
    have k := ih (i + 1) (by omega)
    have ez : 0 + i = i := by omega
    by_cases g : sp i = 0
    · rw [cc_f (p := rr_fst sp 0 (fun _ => True)) (fun z => z.1 (by rw [ez]; exact g))] at k
      exact br_f hn ⟨v1, br_t (by rw [e2]; exact g) (nm_r (nI_1 i) k)⟩
    · refine br_f hn ⟨v1, br_f (by rw [e2]; exact g) ⟨v1, ?_⟩⟩
      rw [e2]
      refine yp_hi (a := 0) (c := i) (by omega) (by omega) (fun a => ?_) (fun a => ?_)
      · rw [cc_f (p := rr_fst sp 0 (fun _ => True)) (fun z => z.2.1 (by rw [ez]; exact a))] at k
        exact br_f gg_i1 (nm_r (nI_1 i) k)
      · rw [cc_t (p := rr_fst sp 0 (fun _ => True)) ⟨by rw [ez]; exact g, by rw [ez]; exact a, trivial⟩] at k
        exact br_t rfl (nm_r (nI_1 _) (nm_r (nI_1 i) k))
theorem yp_iu {post : Int32 → Prop} (h : post (nI (cc_n (rr_fst sp 0 (fun _ => True)) 288))) : wpY_inUse post (nx, sc, bk, sp, vl, hs, th, nu) :=
  Exists.intro 289 (ya_iu h 288 0 (by omega))
end YL
