section XV
variable {bl up nn pn xn : Int32} {hd sn vb : Nat → Int32}
/-! the methods: arguments within, UP -/
theorem xv_write {post : Int32 → SX → Prop} {v f p B : Nat} {x : Int32} (hv : v < 2) (hf : f < 4) (hp : p < 4) (hup : ¬ up = 0) (hB : B ≤ 24) (hb : ∀ j, j < 288 → ∃ b, b < 32 ∧ hd j = nI b)
    (h1 : ∀ b, ¬ b = 0 → b ≤ B → ¬ rr_kept hd (48 * v + 4 * f + p) b → post (nI (cc_n (rr_kept hd (48 * v + 4 * f + p)) 25 + 1)) (nI B, up, nn, pn, xn, upd hd (48 * v + 4 * f + p) (nI b), sn, upd vb b x))
    (h2 : (∀ w, ¬ w = 0 → w ≤ B → rr_kept hd (48 * v + 4 * f + p) w) → post (-4) (nI B, up, nn, pn, xn, hd, sn, vb)) :
    wpX_write post (nI B, up, nn, pn, xn, hd, sn, vb) (nI v) (nI f) (nI p) x := by
  unfold wpX_write
  refine gx_v1 hv (br_f gg_i1 (gx_f1 hf (br_f gg_i1 (gx_p1 hp (br_f gg_i1 (br_f hup (gx_fs (nm_r (nI_add _ _) (xp_bw hb (fun s hs => ?_))))))))))
  have key : ∀ w, w < 32 → ¬ w = 0 → (bt s w = true ↔ rr_kept hd (48 * v + 4 * f + p) w) := by
    intro w hw w0
    rw [hs w hw]
    constructor
    · rintro ⟨j, hj, a, e⟩
      exact ⟨w0, j, hj, fun z => a (by rw [z]), e⟩
    · rintro ⟨_, j, hj, a, e⟩
      exact ⟨j, hj, fun z => a ((nI_eq (by omega) (by omega)).mp z), e⟩
  refine xp_fb hB (fun b b0 hbB hfb => ?_) (fun hall => ?_)
  · have hk : ¬ rr_kept hd (48 * v + 4 * f + p) b := fun z => hfb ((key b (by omega) b0).mpr z)
    have c1 : (nI (48 * v + 4 * f + p)).toNatClampNeg = 48 * v + 4 * f + p := nI_clamp (by omega)
    have c2 : (nI b).toNatClampNeg = b := nI_clamp (by omega)
    refine br_f (nI_ne0 (by omega) (by omega)) ⟨vp_in_nI (by omega) (by omega), nm_r (by rw [c1]) ⟨vp_in_nI (by omega) (by omega), nm_r (by rw [c2]) (xp_sz ?_)⟩⟩
    have e : cc_n (fun w => w ≠ 0 ∧ bt (s ||| ((1 : Int32) <<< (nI b &&& 31))) w = true) 25 = cc_n (rr_kept hd (48 * v + 4 * f + p)) 25 + 1 := by
      refine cc_add hk 25 (by omega) (fun w hw => ?_)
      rw [bb_or s (by omega) (by omega)]
      constructor
      · rintro ⟨w0, a | a⟩
        · exact Or.inl ((key w (by omega) w0).mp a)
        · exact Or.inr a
      · rintro (a | a)
        · exact ⟨a.1, Or.inl ((key w (by omega) a.1).mpr a)⟩
        · exact ⟨by omega, Or.inr a⟩
    rw [e]
    exact h1 b b0 hbB hk
  · exact br_t rfl (h2 (fun w w0 hw => (key w (by omega) w0).mp (hall w w0 hw)))
theorem xv_cut {post : Int32 → SX → Prop} {v f l : Nat} (hv : v < 2) (hf : f < 4) (hl : l < 5) (hup : ¬ up = 0)
    (h : post (nI (cc_n (fun j => ¬ hd (48 * v + 4 * f + l + j) = 0) (4 - l))) (bl, up, nn, pn, xn, aa_cl 0 hd (48 * v + 4 * f + l) (4 - l), sn, vb)) :
    wpX_cut post (bl, up, nn, pn, xn, hd, sn, vb) (nI v) (nI f) (nI l) := by
  unfold wpX_cut
  refine gx_v1 hv (br_f gg_i1 (gx_f1 hf (br_f gg_i1 (br_f (nI_pos (by omega)) (br_f (nI_nlt (b := l) (a := 4) (by omega) (by omega)) (br_f hup (gx_fs (nm_r (pk_sub (a := 4) (b := l) (by omega)) ?_))))))))
  rw [nI_add]
  exact xp_ch (by omega) (xp_cl (by omega) h)
theorem xv_copy {post : Int32 → SX → Prop} {v a b : Nat} (hv : v < 2) (ha : a < 4) (hb : b < 4) (hup : ¬ up = 0)
    (h : post (nI (cc_n (fun j => ¬ aa_cp hd (48 * v + 4 * a) (48 * v + 4 * b) 4 (48 * v + 4 * b + j) = 0) 4)) (bl, up, nn, pn, xn, aa_cp hd (48 * v + 4 * a) (48 * v + 4 * b) 4, sn, vb)) :
    wpX_copy post (bl, up, nn, pn, xn, hd, sn, vb) (nI v) (nI a) (nI b) := by
  unfold wpX_copy
  refine gx_v1 hv (br_f gg_i1 (gx_f1 ha (br_f gg_i1 (gx_f1 hb (br_f gg_i1 (br_f hup (gx_fs (gx_fs ?_))))))))
  exact xp_cp (c := 4) (by omega) (by omega) (by unfold aa_ok; omega) (xp_ch (c := 4) (by omega) h)
theorem xv_swap {post : Int32 → SX → Prop} {v a b : Nat} (hv : v < 2) (ha : a < 4) (hb : b < 4) (hup : ¬ up = 0)
    (h0 : a = b → post 0 (bl, up, nn, pn, xn, aa_sw hd (48 * v + 4 * a) (48 * v + 4 * b) 4, sn, vb)) (h1 : ¬ a = b → post 1 (bl, up, nn, pn, xn, aa_sw hd (48 * v + 4 * a) (48 * v + 4 * b) 4, sn, vb)) :
    wpX_swap post (bl, up, nn, pn, xn, hd, sn, vb) (nI v) (nI a) (nI b) := by
  unfold wpX_swap
  refine gx_v1 hv (br_f gg_i1 (gx_f1 ha (br_f gg_i1 (gx_f1 hb (br_f gg_i1 (br_f hup (gx_fs (gx_fs ?_))))))))
  have k := xa_sw (post := post) (bl := bl) (up := up) (nn := nn) (pn := pn) (xn := xn) (hd := hd) (sn := sn) (vb := vb) (x := 48 * v + 4 * a) (y := 48 * v + 4 * b) (p := nI a) (q := nI b) (by omega) (by omega) (by unfold aa_ok; omega)
    (fun e => h0 ((nI_eq (by omega) (by omega)).mp e)) (fun e => h1 (fun z => e (by rw [z]))) 4 0 (by omega)
  rw [aa_sw0] at k
  exact Exists.intro 5 k
theorem xv_move {post : Int32 → SX → Prop} {v f : Nat} (hv : v < 2) (hf : f < 4) (hup : ¬ up = 0)
    (h : post (nI (cc_n (fun j => ¬ aa_cl 0 (aa_cp hd (48 * v + 4 * f) (48 * (1 - v) + 4 * f) 4) (48 * v + 4 * f) 4 (48 * (1 - v) + 4 * f + j) = 0) 4)) (bl, up, nn, pn, xn, aa_cl 0 (aa_cp hd (48 * v + 4 * f) (48 * (1 - v) + 4 * f) 4) (48 * v + 4 * f) 4, sn, vb)) :
    wpX_move post (bl, up, nn, pn, xn, hd, sn, vb) (nI v) (nI f) := by
  unfold wpX_move
  have e : (1 : Int32) - nI v = nI (1 - v) := pk_sub (a := 1) (b := v) (by omega)
  rw [e]
  refine gx_v1 hv (br_f gg_i1 (gx_f1 hf (br_f gg_i1 (br_f hup (gx_fs (gx_fs ?_))))))
  exact xp_cp (c := 4) (by omega) (by omega) (by unfold aa_ok; omega) (xp_cl (c := 4) (by omega) (xp_ch (c := 4) (by omega) h))
theorem xv_snapshot {post : Int32 → SX → Prop} {v t : Nat} (hv : v < 2) (h1 : 1 ≤ t) (ht : t < 3) (hup : ¬ up = 0)
    (hy : ¬ sn (2 * v + (t - 1)) = 0 → post (-3) (bl, up, nn, pn, xn, hd, sn, vb))
    (hn : sn (2 * v + (t - 1)) = 0 → post (nI (cc_n (fun j => ¬ aa_cp hd (48 * v + 16 * 0) (48 * v + 16 * t) 16 (48 * v + 16 * t + j) = 0) 16)) (bl, up, nn, pn, xn, aa_cp hd (48 * v + 16 * 0) (48 * v + 16 * t) 16, upd sn (2 * v + (t - 1)) 1, vb)) :
    wpX_snapshot post (bl, up, nn, pn, xn, hd, sn, vb) (nI v) (nI t) := by
  unfold wpX_snapshot
  refine gx_v1 hv (br_f gg_i1 (gx_s1 h1 ht (br_f gg_i1 (br_f hup (gx_ht hv ht (fun z => br_f gg_i1 (hy ?_)) (fun _ z => br_t rfl (gx_ts (t := 0) (gx_ts ?_))))))))
  · rcases z with z | z
    · omega
    · exact z
  · exact xp_cp (c := 16) (by omega) (by omega) (by unfold aa_ok; omega) (gx_mk hv h1 ht (Or.inr rfl) (xp_ch (c := 16) (by omega) (hn z)))
theorem xv_drop {post : Int32 → SX → Prop} {v t : Nat} (hv : v < 2) (h1 : 1 ≤ t) (ht : t < 3) (hup : ¬ up = 0) (hb : ∀ j, j < 288 → ∃ b, b < 32 ∧ aa_cl 0 hd (48 * v + 16 * t) 16 j = nI b)
    (hn : sn (2 * v + (t - 1)) = 0 → post (-2) (bl, up, nn, pn, xn, hd, sn, vb))
    (hy : ¬ sn (2 * v + (t - 1)) = 0 → post (nI (cc_n (fun w => w ≠ 0 ∧ rr_has (aa_cl 0 hd (48 * v + 16 * t) 16) 0 288 w ∧ True) 25)) (bl, up, nn, pn, xn, aa_cl 0 hd (48 * v + 16 * t) 16, upd sn (2 * v + (t - 1)) 0, vb)) :
    wpX_drop post (bl, up, nn, pn, xn, hd, sn, vb) (nI v) (nI t) := by
  unfold wpX_drop
  refine gx_v1 hv (br_f gg_i1 (gx_s1 h1 ht (br_f gg_i1 (br_f hup (gx_ht hv ht (fun z => br_f gg_i1 (gx_ts ?_)) (fun _ z => br_t rfl (hn z)))))))
  have z2 : ¬ sn (2 * v + (t - 1)) = 0 := by
    rcases z with z | z
    · omega
    · exact z
  exact xp_cl (c := 16) (by omega) (gx_mk hv h1 ht (Or.inl rfl) (xp_iu hb (hy z2)))
theorem xv_revert {post : Int32 → SX → Prop} {v t : Nat} (hv : v < 2) (h1 : 1 ≤ t) (ht : t < 3) (hup : ¬ up = 0) (hb : ∀ j, j < 288 → ∃ b, b < 32 ∧ aa_cp hd (48 * v + 16 * t) (48 * v + 16 * 0) 16 j = nI b)
    (hn : sn (2 * v + (t - 1)) = 0 → post (-2) (bl, up, nn, pn, xn, hd, sn, vb))
    (hy : ¬ sn (2 * v + (t - 1)) = 0 → post (nI (cc_n (fun w => w ≠ 0 ∧ rr_has (aa_cp hd (48 * v + 16 * t) (48 * v + 16 * 0) 16) 0 288 w ∧ True) 25)) (bl, up, nn, pn, xn, aa_cp hd (48 * v + 16 * t) (48 * v + 16 * 0) 16, sn, vb)) :
    wpX_revert post (bl, up, nn, pn, xn, hd, sn, vb) (nI v) (nI t) := by
  unfold wpX_revert
  refine gx_v1 hv (br_f gg_i1 (gx_s1 h1 ht (br_f gg_i1 (br_f hup (gx_ht hv ht (fun z => br_f gg_i1 (gx_ts (gx_ts (t := 0) ?_))) (fun _ z => br_t rfl (hn z)))))))
  have z2 : ¬ sn (2 * v + (t - 1)) = 0 := by
    rcases z with z | z
    · omega
    · exact z
  exact xp_cp (c := 16) (by omega) (by omega) (by unfold aa_ok; omega) (xp_iu hb (hy z2))
theorem xv_read {post : Int64 → Prop} {v t f p : Nat} (hv : v < 2) (ht : t < 3) (hf : f < 4) (hp : p < 4) (hup : ¬ up = 0) (hb : ∀ j, j < 288 → ∃ b, b < 25 ∧ hd j = nI b)
    (hn : ¬ t = 0 → sn (2 * v + (t - 1)) = 0 → post 4294967297)
    (h0 : (t = 0 ∨ ¬ sn (2 * v + (t - 1)) = 0) → hd (48 * v + 16 * t + 4 * f + p) = 0 → post 4294967296)
    (hy : (t = 0 ∨ ¬ sn (2 * v + (t - 1)) = 0) → ¬ hd (48 * v + 16 * t + 4 * f + p) = 0 → post (vb (hd (48 * v + 16 * t + 4 * f + p)).toNatClampNeg).toInt64) :
    wpX_read post (bl, up, nn, pn, xn, hd, sn, vb) (nI v) (nI t) (nI f) (nI p) := by
  unfold wpX_read
  refine gx_v1 hv (br_f gg_i1 (gx_t1 ht (br_f gg_i1 (gx_f1 hf (br_f gg_i1 (gx_p1 hp (br_f gg_i1 (br_f hup (gx_ht hv ht (fun z => br_f gg_i1 (gx_ts ?_)) (fun z0 z => br_t rfl (hn z0 z)))))))))))
  have e : (nI (48 * v + 16 * t) + (nI f * 4)) + nI p = nI (48 * v + 16 * t + 4 * f + p) := by
    show (nI (48 * v + 16 * t) + (nI f * nI 4)) + nI p = _
    rw [pk_mul, nI_add, nI_add]
    exact congrArg nI (by omega)
  rw [e, nI_clamp (by omega)]
  obtain ⟨b, hb1, eb⟩ := hb (48 * v + 16 * t + 4 * f + p) (by omega)
  exact ⟨vp_in_nI (by omega) (by omega), nm_e (br_c (fun a => h0 z a) (fun a => ⟨by rw [eb]; exact vp_in_nI hb1 (by omega), hy z a⟩))⟩
theorem xv_shared {post : Int32 → Prop} {v a b : Nat} (hv : v < 2) (ha : a < 3) (hb : b < 3) (hup : ¬ up = 0) (hh : ∀ j, j < 288 → ∃ b, b < 32 ∧ hd j = nI b)
    (hn : ((¬ a = 0 ∧ sn (2 * v + (a - 1)) = 0) ∨ (¬ b = 0 ∧ sn (2 * v + (b - 1)) = 0)) → post (-2))
    (hy : (a = 0 ∨ ¬ sn (2 * v + (a - 1)) = 0) → (b = 0 ∨ ¬ sn (2 * v + (b - 1)) = 0) → post (nI (cc_n (fun w => w ≠ 0 ∧ rr_has hd (48 * v + 16 * a) 16 w ∧ rr_has hd (48 * v + 16 * b) 16 w) 25))) :
    wpX_shared post (bl, up, nn, pn, xn, hd, sn, vb) (nI v) (nI a) (nI b) := by
  unfold wpX_shared
  refine gx_v1 hv (br_f gg_i1 (gx_t1 ha (br_f gg_i1 (gx_t1 hb (br_f gg_i1 (br_f hup (gx_ht hv ha (fun z => br_f gg_i1 (gx_ht hv hb (fun y => br_f gg_i1 ?_) (fun y0 y => br_t rfl (hn (Or.inr ⟨y0, y⟩))))) (fun z0 z => br_t rfl (hn (Or.inl ⟨z0, z⟩))))))))))
  refine xp_bt hv ha hh (fun s hs => xp_bt hv hb hh (fun s' hs' => xp_sz ?_))
  have e : cc_n (fun w => w ≠ 0 ∧ bt (s &&& s') w = true) 25 = cc_n (fun w => w ≠ 0 ∧ rr_has hd (48 * v + 16 * a) 16 w ∧ rr_has hd (48 * v + 16 * b) 16 w) 25 := by
    refine cc_ext 25 (fun w hw => ?_)
    rw [bb_and, hs w (by omega), hs' w (by omega)]
  rw [e]
  exact hy z y
end XV
