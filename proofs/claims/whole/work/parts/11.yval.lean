section YV
variable {nx bk : Int32} {sc : Int64} {sp : Nat → Int64} {vl hs th nu : Nat → Int32}
/-! the methods: arguments within, UP -/
theorem gy_i1 (v f : Nat) : (48 * nI v) + (4 * nI f) = nI (48 * v + 4 * f) := by
  show (nI 48 * nI v) + (nI 4 * nI f) = _
  rw [pk_mul, pk_mul, nI_add]
theorem gy_i2 (v t : Nat) : (48 * nI v) + (16 * nI t) = nI (48 * v + 16 * t) := by
  show (nI 48 * nI v) + (nI 16 * nI t) = _
  rw [pk_mul, pk_mul, nI_add]
theorem gy_i3 (v t : Nat) : (3 * nI v) + nI t = nI (3 * v + t) := by
  show (nI 3 * nI v) + nI t = _
  rw [pk_mul, nI_add]
theorem gy_48 (v : Nat) : 48 * nI v = nI (48 * v) := by
  show nI 48 * nI v = _
  rw [pk_mul]
theorem yv_write {post : Int32 → SY → Prop} {v f p B T : Nat} {x : Int32} (hv : v < 2) (hf : f < 4) (hp : p < 4) (hup : ¬ th 0 = 0) (hB : B ≤ 24)
    (h1 : cc_n (rr_fst (vp_updL sp (48 * v + 4 * f + p) (lN (T + 1))) 0 (fun _ => True)) 288 ≤ B →
      post (nI (cc_n (rr_fst (vp_updL sp (48 * v + 4 * f + p) (lN (T + 1))) 0 (fun _ => True)) 288)) (nx, lN (T + 1), nI B, vp_updL sp (48 * v + 4 * f + p) (lN (T + 1)), upd vl (48 * v + 4 * f + p) x, hs, th, nu))
    (h2 : B < cc_n (rr_fst (vp_updL sp (48 * v + 4 * f + p) (lN (T + 1))) 0 (fun _ => True)) 288 →
      post (-4) (nx, lN (T + 1), nI B, vp_updL (vp_updL sp (48 * v + 4 * f + p) (lN (T + 1))) (48 * v + 4 * f + p) (sp (48 * v + 4 * f + p)), upd (upd vl (48 * v + 4 * f + p) x) (48 * v + 4 * f + p) (vl (48 * v + 4 * f + p)), hs, th, nu)) :
    wpY_write post (nx, lN T, nI B, sp, vl, hs, th, nu) (nI v) (nI f) (nI p) x := by
  unfold wpY_write
  have v1 : vp_in (nI (48 * v + 4 * f + p)) 288 := vp_in_nI (by omega) (by omega)
  have c1 : (nI (48 * v + 4 * f + p)).toNatClampNeg = 48 * v + 4 * f + p := nI_clamp (by omega)
  have hc := cc_le (p := rr_fst (vp_updL sp (48 * v + 4 * f + p) (lN (T + 1))) 0 (fun _ => True)) 288
  refine gy_1 2 hv (by omega) (br_t rfl (gy_1 4 hf (by omega) (br_t rfl (gy_1 4 hp (by omega) (br_t rfl (br_f hup (nm_r (e' := nI (48 * v + 4 * f + p)) (by rw [gy_i1, nI_add]) ?_)))))))
  refine ⟨v1, nm_r (by rw [c1]) ⟨v1, nm_r (by rw [c1]) (nm_r (lN_1 T) ⟨v1, nm_r (by rw [c1]) ⟨v1, nm_r (by rw [c1]) (yp_iu ?_)⟩⟩)⟩⟩
  by_cases g : cc_n (rr_fst (vp_updL sp (48 * v + 4 * f + p) (lN (T + 1))) 0 (fun _ => True)) 288 ≤ B
  · exact br_f (nI_nlt (by omega) (by omega)) (h1 g)
  · exact br_t (nI_lt (by omega) (by omega)) ⟨v1, nm_r (by rw [c1]) ⟨v1, nm_r (by rw [c1]) (h2 (by omega))⟩⟩
theorem ya_cut {post : Int32 → SY → Prop} {c l : Nat} {r : Int32} (hc : c + 4 ≤ 288) (hl : l < 5) (h : post r (nx, sc, bk, aa_cl 0 sp (c + l) (4 - l), vl, hs, th, nu)) :
    ∀ d i, i + d = 4 - l → wY_cut_61 post (nI c) r nx sc bk (d + 1) (nI (l + i)) (aa_cl 0 sp (c + l) i) vl hs th nu := by
  intro d
  induction d with
  | zero =>
    intro i hi
    have e : i = 4 - l := by omega
    subst e
    exact br_t (nI_le (a := 4) (by omega) (by omega)) h
  | succ d ih =>
    intro i hi
    have e1 : nI c + nI (l + i) = nI (c + l + i) := by rw [nI_add]; exact congrArg nI (by omega)
    refine br_f (nI_ge (b := 4) (by omega) (by omega)) ⟨?_, nm_r ?_ (nm_r (nI_1 (l + i)) (ih (i + 1) (by omega)))⟩
    · rw [e1]; exact vp_in_nI (by omega) (by omega)
    · rw [e1, nI_clamp (by omega), aa_uL, aa_clS]
theorem yv_cut {post : Int32 → SY → Prop} {v f l : Nat} (hv : v < 2) (hf : f < 4) (hl : l < 5) (hup : ¬ th 0 = 0)
    (h : post (nI (cc_n (fun j => ¬ sp (48 * v + 4 * f + l + j) = 0) (4 - l))) (nx, sc, bk, aa_cl 0 sp (48 * v + 4 * f + l) (4 - l), vl, hs, th, nu)) :
    wpY_cut post (nx, sc, bk, sp, vl, hs, th, nu) (nI v) (nI f) (nI l) := by
  unfold wpY_cut
  refine gy_1 2 hv (by omega) (br_t rfl (gy_1 4 hf (by omega) (br_t rfl (gy_1 5 hl (by omega) (br_t rfl (br_f hup (nm_r (gy_i1 v f) ?_)))))))
  have e4 : (4 : Int32) - nI l = nI (4 - l) := pk_sub (a := 4) (b := l) (by omega)
  rw [nI_add, e4]
  have k := ya_cut (c := 48 * v + 4 * f) (by omega) hl h (4 - l) 0 (by omega)
  rw [aa_cl0] at k
  exact yp_fl (by omega) (Exists.intro (4 - l + 1) k)
theorem ya_copy {post : Int32 → SY → Prop} {c a b : Nat} (ha : c + 4 * a + 4 ≤ 288) (hb : c + 4 * b + 4 ≤ 288) (ok : aa_ok (c + 4 * a) (c + 4 * b) 4)
    (h : post (nI (cc_n (fun j => ¬ aa_cp sp (c + 4 * a) (c + 4 * b) 4 (c + 4 * b + j) = 0) 4)) (nx, sc, bk, aa_cp sp (c + 4 * a) (c + 4 * b) 4, aa_cp vl (c + 4 * a) (c + 4 * b) 4, hs, th, nu)) :
    ∀ d i, i + d = 4 → wY_copy_44 post (nI a) (nI b) (nI c) (d + 1) (nI i) nx sc bk (aa_cp sp (c + 4 * a) (c + 4 * b) i) (aa_cp vl (c + 4 * a) (c + 4 * b) i) hs th nu := by
  have ea : nI c + (4 * nI a) = nI (c + 4 * a) := by
    show nI c + (nI 4 * nI a) = _
    rw [pk_mul, nI_add]
  have eb : nI c + (4 * nI b) = nI (c + 4 * b) := by
    show nI c + (nI 4 * nI b) = _
    rw [pk_mul, nI_add]
  intro d
  induction d with
  | zero =>
    intro i hi
    have e : i = 4 := by omega
    subst e
    refine br_t (nI_le (a := 4) (b := 4) (by omega) (by omega)) ?_
    rw [eb]
    exact yp_fl (c := 4) (by omega) h
  | succ d ih =>
    intro i hi
    refine br_f (nI_ge (b := 4) (by omega) (by omega)) ?_
    rw [ea, eb, nI_add, nI_add]
    refine gy_sp (by omega) (by omega) (nm_r (nI_1 i) ?_)
    rw [aa_cpS sp ok (by omega), aa_cpS vl ok (by omega)]
    exact ih (i + 1) (by omega)
theorem yv_copy {post : Int32 → SY → Prop} {v a b : Nat} (hv : v < 2) (ha : a < 4) (hb : b < 4) (hup : ¬ th 0 = 0)
    (h : post (nI (cc_n (fun j => ¬ aa_cp sp (48 * v + 4 * a) (48 * v + 4 * b) 4 (48 * v + 4 * b + j) = 0) 4)) (nx, sc, bk, aa_cp sp (48 * v + 4 * a) (48 * v + 4 * b) 4, aa_cp vl (48 * v + 4 * a) (48 * v + 4 * b) 4, hs, th, nu)) :
    wpY_copy post (nx, sc, bk, sp, vl, hs, th, nu) (nI v) (nI a) (nI b) := by
  unfold wpY_copy
  have k := ya_copy (c := 48 * v) (by omega) (by omega) (by unfold aa_ok; omega) h 4 0 (by omega)
  rw [aa_cp0, aa_cp0] at k
  exact gy_1 2 hv (by omega) (br_t rfl (gy_1 4 ha (by omega) (br_t rfl (gy_1 4 hb (by omega) (br_t rfl (br_f hup (nm_r (gy_48 v) (Exists.intro 5 k))))))))
theorem ya_swap {post : Int32 → SY → Prop} {v a b : Nat} (hv : v < 2) (ha : a < 4) (hb : b < 4)
    (h0 : a = b → post 0 (nx, sc, bk, aa_sw sp (48 * v + 4 * a) (48 * v + 4 * b) 4, aa_sw vl (48 * v + 4 * a) (48 * v + 4 * b) 4, hs, th, nu))
    (h1 : ¬ a = b → post 1 (nx, sc, bk, aa_sw sp (48 * v + 4 * a) (48 * v + 4 * b) 4, aa_sw vl (48 * v + 4 * a) (48 * v + 4 * b) 4, hs, th, nu)) :
    ∀ d i, i + d = 4 → wY_swap_38 post (nI v) (nI a) (nI b) (d + 1) (nI i) nx sc bk (aa_sw sp (48 * v + 4 * a) (48 * v + 4 * b) i) (aa_sw vl (48 * v + 4 * a) (48 * v + 4 * b) i) hs th nu := by
  have ok : aa_ok (48 * v + 4 * a) (48 * v + 4 * b) 4 := by unfold aa_ok; omega
  intro d
  induction d with
  | zero =>
    intro i hi
    have e : i = 4 := by omega
    subst e
    exact br_t (nI_le (a := 4) (b := 4) (by omega) (by omega)) (br_c (fun e => h0 ((nI_eq (by omega) (by omega)).mp e)) (fun e => h1 (fun z => e (by rw [z]))))
  | succ d ih =>
    intro i hi
    have e1 : ((48 * nI v) + (4 * nI a)) + nI i = nI (48 * v + 4 * a + i) := by rw [gy_i1, nI_add]
    have e2 : ((48 * nI v) + (4 * nI b)) + nI i = nI (48 * v + 4 * b + i) := by rw [gy_i1, nI_add]
    have c1 : (nI (48 * v + 4 * a + i)).toNatClampNeg = 48 * v + 4 * a + i := nI_clamp (by omega)
    have c2 : (nI (48 * v + 4 * b + i)).toNatClampNeg = 48 * v + 4 * b + i := nI_clamp (by omega)
    have v1 : vp_in (nI (48 * v + 4 * a + i)) 288 := vp_in_nI (by omega) (by omega)
    have v2 : vp_in (nI (48 * v + 4 * b + i)) 288 := vp_in_nI (by omega) (by omega)
    refine br_f (nI_ge (b := 4) (by omega) (by omega)) (nm_r e1 (nm_r e2 ⟨v1, nm_r (by rw [c1]) ⟨v1, nm_r (by rw [c1]) (gy_sp (by omega) (by omega) ⟨v2, nm_r ?_ ⟨v2, nm_r ?_ (nm_r (nI_1 i) (ih (i + 1) (by omega)))⟩⟩)⟩⟩))
    · rw [c2, aa_uL, aa_swS sp ok (by omega)]
    · rw [c2, aa_uI, aa_swS vl ok (by omega)]
theorem yv_swap {post : Int32 → SY → Prop} {v a b : Nat} (hv : v < 2) (ha : a < 4) (hb : b < 4) (hup : ¬ th 0 = 0)
    (h0 : a = b → post 0 (nx, sc, bk, aa_sw sp (48 * v + 4 * a) (48 * v + 4 * b) 4, aa_sw vl (48 * v + 4 * a) (48 * v + 4 * b) 4, hs, th, nu))
    (h1 : ¬ a = b → post 1 (nx, sc, bk, aa_sw sp (48 * v + 4 * a) (48 * v + 4 * b) 4, aa_sw vl (48 * v + 4 * a) (48 * v + 4 * b) 4, hs, th, nu)) :
    wpY_swap post (nx, sc, bk, sp, vl, hs, th, nu) (nI v) (nI a) (nI b) := by
  unfold wpY_swap
  have k := ya_swap hv ha hb h0 h1 4 0 (by omega)
  rw [aa_sw0, aa_sw0] at k
  exact gy_1 2 hv (by omega) (br_t rfl (gy_1 4 ha (by omega) (br_t rfl (gy_1 4 hb (by omega) (br_t rfl (br_f hup (Exists.intro 5 k)))))))
theorem ya_move {post : Int32 → SY → Prop} {s t : Nat} (hs' : s + 4 ≤ 288) (ht : t + 4 ≤ 288) (ok : s + 4 ≤ t ∨ t + 4 ≤ s)
    (h : post (nI (cc_n (fun j => ¬ aa_cl 0 (aa_cp sp s t 4) s 4 (t + j) = 0) 4)) (nx, sc, bk, aa_cl 0 (aa_cp sp s t 4) s 4, aa_cp vl s t 4, hs, th, nu)) :
    ∀ d i, i + d = 4 → wY_move_51 post (nI s) (nI t) (d + 1) (nI i) nx sc bk (aa_cl 0 (aa_cp sp s t i) s i) (aa_cp vl s t i) hs th nu := by
  intro d
  induction d with
  | zero =>
    intro i hi
    have e : i = 4 := by omega
    subst e
    exact br_t (nI_le (a := 4) (b := 4) (by omega) (by omega)) (yp_fl (c := 4) (by omega) h)
  | succ d ih =>
    intro i hi
    refine br_f (nI_ge (b := 4) (by omega) (by omega)) ?_
    rw [nI_add, nI_add]
    refine gy_sp (by omega) (by omega) ⟨vp_in_nI (by omega) (by omega), nm_r (e' := aa_cl 0 (aa_cp sp s t (i + 1)) s (i + 1)) ?_ (nm_r (nI_1 i) ?_)⟩
    · rw [nI_clamp (by omega), aa_uL, aa_mvS 0 sp ok (by omega)]
    · rw [aa_cpS vl (c := 4) (by unfold aa_ok; omega) (by omega)]
      exact ih (i + 1) (by omega)
theorem yv_move {post : Int32 → SY → Prop} {v f : Nat} (hv : v < 2) (hf : f < 4) (hup : ¬ th 0 = 0)
    (h : post (nI (cc_n (fun j => ¬ aa_cl 0 (aa_cp sp (48 * v + 4 * f) (48 * (1 - v) + 4 * f) 4) (48 * v + 4 * f) 4 (48 * (1 - v) + 4 * f + j) = 0) 4)) (nx, sc, bk, aa_cl 0 (aa_cp sp (48 * v + 4 * f) (48 * (1 - v) + 4 * f) 4) (48 * v + 4 * f) 4, aa_cp vl (48 * v + 4 * f) (48 * (1 - v) + 4 * f) 4, hs, th, nu)) :
    wpY_move post (nx, sc, bk, sp, vl, hs, th, nu) (nI v) (nI f) := by
  unfold wpY_move
  have e : (1 : Int32) - nI v = nI (1 - v) := pk_sub (a := 1) (b := v) (by omega)
  rw [e]
  have k := ya_move (by omega) (by omega) (by omega) h 4 0 (by omega)
  rw [aa_cp0, aa_cp0, aa_cl0] at k
  exact gy_1 2 hv (by omega) (br_t rfl (gy_1 4 hf (by omega) (br_t rfl (br_f hup (nm_r (gy_i1 v f) (nm_r (gy_i1 (1 - v) f) (Exists.intro 5 k)))))))
theorem ya_ct {post : SY → Prop} {c a b : Nat} (ha : c + 16 * a + 16 ≤ 288) (hb : c + 16 * b + 16 ≤ 288) (ok : aa_ok (c + 16 * a) (c + 16 * b) 16)
    (h : post (nx, sc, bk, aa_cp sp (c + 16 * a) (c + 16 * b) 16, aa_cp vl (c + 16 * a) (c + 16 * b) 16, hs, th, nu)) :
    ∀ d i, i + d = 16 → wY_copyTree_9 post (nI a) (nI b) (nI c) (d + 1) (nI i) nx sc bk (aa_cp sp (c + 16 * a) (c + 16 * b) i) (aa_cp vl (c + 16 * a) (c + 16 * b) i) hs th nu := by
  have ea : nI c + (16 * nI a) = nI (c + 16 * a) := by
    show nI c + (nI 16 * nI a) = _
    rw [pk_mul, nI_add]
  have eb : nI c + (16 * nI b) = nI (c + 16 * b) := by
    show nI c + (nI 16 * nI b) = _
    rw [pk_mul, nI_add]
  intro d
  induction d with
  | zero =>
    intro i hi
    have e : i = 16 := by omega
    subst e
    exact br_t (nI_le (a := 16) (b := 16) (by omega) (by omega)) h
  | succ d ih =>
    intro i hi
    refine br_f (nI_ge (b := 16) (by omega) (by omega)) ?_
    rw [ea, eb, nI_add, nI_add]
    refine gy_sp (by omega) (by omega) (nm_r (nI_1 i) ?_)
    rw [aa_cpS sp ok (by omega), aa_cpS vl ok (by omega)]
    exact ih (i + 1) (by omega)
theorem yp_ct {post : SY → Prop} {v a b : Nat} (hv : v < 2) (ha : a < 3) (hb : b < 3)
    (h : post (nx, sc, bk, aa_cp sp (48 * v + 16 * a) (48 * v + 16 * b) 16, aa_cp vl (48 * v + 16 * a) (48 * v + 16 * b) 16, hs, th, nu)) :
    wpY_copyTree post (nx, sc, bk, sp, vl, hs, th, nu) (nI v) (nI a) (nI b) := by
  unfold wpY_copyTree
  have k := ya_ct (c := 48 * v) (by omega) (by omega) (by unfold aa_ok; omega) h 16 0 (by omega)
  rw [aa_cp0, aa_cp0] at k
  exact nm_r (gy_48 v) (Exists.intro 17 k)
theorem yv_snapshot {post : Int32 → SY → Prop} {v t : Nat} (hv : v < 2) (h1 : 1 ≤ t) (ht : t < 3) (hup : ¬ th 0 = 0)
    (hy : ¬ hs (3 * v + t) = 0 → post (-3) (nx, sc, bk, sp, vl, hs, th, nu))
    (hn : hs (3 * v + t) = 0 → post (nI (cc_n (fun j => ¬ aa_cp sp (48 * v + 16 * 0) (48 * v + 16 * t) 16 (48 * v + j) = 0) 16)) (nx, sc, bk, aa_cp sp (48 * v + 16 * 0) (48 * v + 16 * t) 16, aa_cp vl (48 * v + 16 * 0) (48 * v + 16 * t) 16, upd hs (3 * v + t) 1, th, nu)) :
    wpY_snapshot post (nx, sc, bk, sp, vl, hs, th, nu) (nI v) (nI t) := by
  unfold wpY_snapshot
  have c1 : (nI (3 * v + t)).toNatClampNeg = 3 * v + t := nI_clamp (by omega)
  have v1 : vp_in (nI (3 * v + t)) 18 := vp_in_nI (by omega) (by omega)
  rw [gy_i3, gy_48, c1]
  exact gy_1 2 hv (by omega) (br_t rfl (br_f (nI_ne0 (by omega) (by omega)) (gy_1 3 ht (by omega) (br_t rfl (br_f hup ⟨v1, br_c (fun a => ⟨v1, nm_r (by rw [gg_vb (Or.inr rfl)]) (yp_ct (a := 0) hv (by omega) ht (yp_fl (c := 16) (by omega) (hn a)))⟩) hy⟩)))))
theorem ya_drop {post : Int32 → SY → Prop} {v t : Nat} (hv : v < 2) (ht : t < 3)
    (h : post (nI (cc_n (rr_fst (aa_cl 0 sp (48 * v + 16 * t) 16) 0 (fun _ => True)) 288)) (nx, sc, bk, aa_cl 0 sp (48 * v + 16 * t) 16, vl, hs, th, nu)) :
    ∀ d i, i + d = 16 → wY_drop_60 post (nI v) (nI t) nx sc bk (d + 1) (nI i) (aa_cl 0 sp (48 * v + 16 * t) i) vl hs th nu := by
  intro d
  induction d with
  | zero =>
    intro i hi
    have e : i = 16 := by omega
    subst e
    exact br_t (nI_le (a := 16) (b := 16) (by omega) (by omega)) (yp_iu h)
  | succ d ih =>
    intro i hi
    have e1 : ((48 * nI v) + (16 * nI t)) + nI i = nI (48 * v + 16 * t + i) := by rw [gy_i2, nI_add]
    refine br_f (nI_ge (b := 16) (by omega) (by omega)) ⟨?_, nm_r ?_ (nm_r (nI_1 i) (ih (i + 1) (by omega)))⟩
    · rw [e1]; exact vp_in_nI (by omega) (by omega)
    · rw [e1, nI_clamp (by omega), aa_uL, aa_clS]
theorem yv_drop {post : Int32 → SY → Prop} {v t : Nat} (hv : v < 2) (h1 : 1 ≤ t) (ht : t < 3) (hup : ¬ th 0 = 0)
    (hn : hs (3 * v + t) = 0 → post (-2) (nx, sc, bk, sp, vl, hs, th, nu))
    (hy : ¬ hs (3 * v + t) = 0 → post (nI (cc_n (rr_fst (aa_cl 0 sp (48 * v + 16 * t) 16) 0 (fun _ => True)) 288)) (nx, sc, bk, aa_cl 0 sp (48 * v + 16 * t) 16, vl, upd hs (3 * v + t) 0, th, nu)) :
    wpY_drop post (nx, sc, bk, sp, vl, hs, th, nu) (nI v) (nI t) := by
  unfold wpY_drop
  have c1 : (nI (3 * v + t)).toNatClampNeg = 3 * v + t := nI_clamp (by omega)
  have v1 : vp_in (nI (3 * v + t)) 18 := vp_in_nI (by omega) (by omega)
  rw [gy_i3, c1]
  refine gy_1 2 hv (by omega) (br_t rfl (br_f (nI_ne0 (by omega) (by omega)) (gy_1 3 ht (by omega) (br_t rfl (br_f hup ⟨v1, br_c hn (fun a => ⟨v1, nm_r (by rw [gg_vb (Or.inl rfl)]) ?_⟩)⟩)))))
  have k := ya_drop hv ht (hy a) 16 0 (by omega)
  rw [aa_cl0] at k
  exact Exists.intro 17 k
theorem yv_revert {post : Int32 → SY → Prop} {v t : Nat} (hv : v < 2) (h1 : 1 ≤ t) (ht : t < 3) (hup : ¬ th 0 = 0)
    (hn : hs (3 * v + t) = 0 → post (-2) (nx, sc, bk, sp, vl, hs, th, nu))
    (hy : ¬ hs (3 * v + t) = 0 → post (nI (cc_n (rr_fst (aa_cp sp (48 * v + 16 * t) (48 * v + 16 * 0) 16) 0 (fun _ => True)) 288)) (nx, sc, bk, aa_cp sp (48 * v + 16 * t) (48 * v + 16 * 0) 16, aa_cp vl (48 * v + 16 * t) (48 * v + 16 * 0) 16, hs, th, nu)) :
    wpY_revert post (nx, sc, bk, sp, vl, hs, th, nu) (nI v) (nI t) := by
  unfold wpY_revert
  have c1 : (nI (3 * v + t)).toNatClampNeg = 3 * v + t := nI_clamp (by omega)
  have v1 : vp_in (nI (3 * v + t)) 18 := vp_in_nI (by omega) (by omega)
  rw [gy_i3, c1]
  exact gy_1 2 hv (by omega) (br_t rfl (br_f (nI_ne0 (by omega) (by omega)) (gy_1 3 ht (by omega) (br_t rfl (br_f hup ⟨v1, br_c hn (fun a => yp_ct (b := 0) hv ht (by omega) (yp_iu (hy a)))⟩)))))
theorem yv_read {post : Int64 → Prop} {v t f p : Nat} (hv : v < 2) (ht : t < 3) (hf : f < 4) (hp : p < 4) (hup : ¬ th 0 = 0)
    (hn : hs (3 * v + t) = 0 → post 4294967297)
    (h0 : ¬ hs (3 * v + t) = 0 → sp (48 * v + 16 * t + 4 * f + p) = 0 → post 4294967296)
    (hy : ¬ hs (3 * v + t) = 0 → ¬ sp (48 * v + 16 * t + 4 * f + p) = 0 → post (vl (48 * v + 16 * t + 4 * f + p)).toInt64) :
    wpY_read post (nx, sc, bk, sp, vl, hs, th, nu) (nI v) (nI t) (nI f) (nI p) := by
  unfold wpY_read
  have c1 : (nI (3 * v + t)).toNatClampNeg = 3 * v + t := nI_clamp (by omega)
  have v1 : vp_in (nI (3 * v + t)) 18 := vp_in_nI (by omega) (by omega)
  have c2 : (nI (48 * v + 16 * t + 4 * f + p)).toNatClampNeg = 48 * v + 16 * t + 4 * f + p := nI_clamp (by omega)
  have v2 : vp_in (nI (48 * v + 16 * t + 4 * f + p)) 288 := vp_in_nI (by omega) (by omega)
  have e : (((48 * nI v) + (16 * nI t)) + (4 * nI f)) + nI p = nI (48 * v + 16 * t + 4 * f + p) := by
    rw [gy_i2]
    show (nI (48 * v + 16 * t) + (nI 4 * nI f)) + nI p = _
    rw [pk_mul, nI_add, nI_add]
  rw [gy_i3, c1]
  exact gy_1 2 hv (by omega) (br_t rfl (gy_1 3 ht (by omega) (br_t rfl (gy_1 4 hf (by omega) (br_t rfl (gy_1 4 hp (by omega) (br_t rfl (br_f hup ⟨v1, br_c hn (fun a => nm_r e ⟨v2, br_c (fun b => h0 a (by rw [c2] at b; exact b)) (fun b => ⟨v2, by rw [c2]; exact hy a (by rw [c2] at b; exact b)⟩)⟩)⟩))))))))
theorem ya_shared {post : Int32 → Prop} {x y : Nat} (hx : x + 16 ≤ 288) (hy : y + 16 ≤ 288) (h : post (nI (cc_n (rr_fst sp x (fun s => ∃ j, j < 16 ∧ sp (y + j) = s)) 16))) :
    ∀ d i, i + d = 16 → wY_shared_93 post (nI x) (nI y) nx sc bk sp vl hs th nu (d + 1) (nI (cc_n (rr_fst sp x (fun s => ∃ j, j < 16 ∧ sp (y + j) = s)) i)) (nI (x + i)) := by
  have ex : nI x + 16 = nI (x + 16) := nI_add x 16
  have ey : nI y + 16 = nI (y + 16) := nI_add y 16
  intro d
  induction d with
  | zero =>
    intro i hi
    have e : i = 16 := by omega
    subst e
    exact br_t (by rw [ex]; exact nI_le (by omega) (by omega)) h
  | succ d ih =>
    intro i hi
    have c1 : (nI (x + i)).toNatClampNeg = x + i := nI_clamp (by omega)
    have v1 : vp_in (nI (x + i)) 288 := vp_in_nI (by omega) (by omega)
    have hn : ¬ nI x + 16 ≤ nI (x + i) := by rw [ex]; exact nI_ge (by omega) (by omega)
    have k := ih (i + 1) (by omega)
    by_cases g : sp (x + i) = 0
    · rw [cc_f (p := rr_fst sp x (fun s => ∃ j, j < 16 ∧ sp (y + j) = s)) (fun z => z.1 g)] at k
      exact br_f hn ⟨v1, br_t (by rw [c1]; exact g) (nm_r (nI_1 (x + i)) k)⟩
    · refine br_f hn ⟨v1, br_f (by rw [c1]; exact g) ⟨v1, ?_⟩⟩
      rw [c1, ey]
      refine yp_hi (a := x) (c := i) rfl (by omega) (fun a => br_f gg_i1 ?_) (fun a => br_t rfl ⟨v1, ?_⟩)
      · rw [cc_f (p := rr_fst sp x (fun s => ∃ j, j < 16 ∧ sp (y + j) = s)) (fun z => z.2.1 a)] at k
        exact nm_r (nI_1 (x + i)) k
      · refine yp_hi (a := y) (c := 16) rfl (by omega) (fun b => br_f gg_i1 ?_) (fun b => br_t rfl ?_)
        · rw [cc_t (p := rr_fst sp x (fun s => ∃ j, j < 16 ∧ sp (y + j) = s)) ⟨g, a, b⟩] at k
          exact nm_r (nI_1 _) (nm_r (nI_1 (x + i)) k)
        · rw [cc_f (p := rr_fst sp x (fun s => ∃ j, j < 16 ∧ sp (y + j) = s)) (fun z => b z.2.2)] at k
          exact nm_r (nI_1 (x + i)) k
theorem yv_shared {post : Int32 → Prop} {v a b : Nat} (hv : v < 2) (ha : a < 3) (hb : b < 3) (hup : ¬ th 0 = 0)
    (hn : (hs (3 * v + a) = 0 ∨ hs (3 * v + b) = 0) → post (-2))
    (hy : ¬ hs (3 * v + a) = 0 → ¬ hs (3 * v + b) = 0 → post (nI (cc_n (rr_fst sp (48 * v + 16 * a) (fun s => ∃ j, j < 16 ∧ sp (48 * v + 16 * b + j) = s)) 16))) :
    wpY_shared post (nx, sc, bk, sp, vl, hs, th, nu) (nI v) (nI a) (nI b) := by
  unfold wpY_shared
  have c1 : (nI (3 * v + a)).toNatClampNeg = 3 * v + a := nI_clamp (by omega)
  have v1 : vp_in (nI (3 * v + a)) 18 := vp_in_nI (by omega) (by omega)
  have c2 : (nI (3 * v + b)).toNatClampNeg = 3 * v + b := nI_clamp (by omega)
  have v2 : vp_in (nI (3 * v + b)) 18 := vp_in_nI (by omega) (by omega)
  rw [gy_i3, gy_i3, c1, c2]
  exact gy_1 2 hv (by omega) (br_t rfl (gy_1 3 ha (by omega) (br_t rfl (gy_1 3 hb (by omega) (br_t rfl (br_f hup ⟨v1, br_c (fun z => hn (Or.inl z)) (fun z => ⟨v2, br_c (fun w => hn (Or.inr w)) (fun w => nm_r (gy_i2 v a) (nm_r (gy_i2 v b) (Exists.intro 17 (ya_shared (x := 48 * v + 16 * a) (y := 48 * v + 16 * b) (by omega) (by omega) (hy z w) 16 0 (by omega)))))⟩)⟩))))))
end YV
