section XM
variable {bl up nn pn xn : Int32} {hd sn vb : Nat → Int32}
/-! a state copied, a state cleared -/
theorem xa_cs {post : SX → Prop} {a b : Nat} (ha : a < 3) (hb : b < 3) (ok : aa_ok (4 * a) (4 * b) 4) (h01 : ∀ j, sn j = 0 ∨ sn j = 1)
    (h : post (bl, up, nn, pn, xn, hd, aa_cp sn (4 * a) (4 * b) 4, vb)) :
    ∀ d i, i + d = 4 → wX_copyState_16 post (nI a) (nI b) bl up nn pn xn (d + 1) (nI i) hd (aa_cp sn (4 * a) (4 * b) i) vb := by
  intro d
  induction d with
  | zero =>
    intro i hi
    have e : i = 4 := by omega
    subst e
    exact br_t (nI_le (a := 4) (b := 4) (by omega) (by omega)) h
  | succ d ih =>
    intro i hi
    have e1 : (nI a * 4) + nI i = nI (4 * a + i) := by
      show (nI a * nI 4) + nI i = _
      rw [pk_mul, nI_add]
      exact congrArg nI (by omega)
    have e2 : (nI b * 4) + nI i = nI (4 * b + i) := by
      show (nI b * nI 4) + nI i = _
      rw [pk_mul, nI_add]
      exact congrArg nI (by omega)
    have z : aa_cp sn (4 * a) (4 * b) i (4 * a + i) = 0 ∨ aa_cp sn (4 * a) (4 * b) i (4 * a + i) = 1 := by
      rw [aa_cpR sn ok (by omega)]; exact h01 _
    refine br_f (nI_ge (b := 4) (by omega) (by omega)) ⟨?_, ?_, nm_r ?_ (nm_r (nI_1 i) (ih (i + 1) (by omega)))⟩
    · rw [e1]; exact vp_in_nI (by omega) (by omega)
    · rw [e2]; exact vp_in_nI (by omega) (by omega)
    · rw [e1, e2, nI_clamp (by omega), nI_clamp (by omega), gg_vb z, aa_uI, aa_cpS sn ok (by omega)]
theorem gx_m96 (a : Nat) : nI a * 96 = nI (96 * a) := by
  show nI a * nI 96 = _
  rw [pk_mul, Nat.mul_comm]
theorem xp_cs {post : SX → Prop} {a b : Nat} (ha : a < 3) (hb : b < 3) (h01 : ∀ j, sn j = 0 ∨ sn j = 1)
    (h : post (bl, up, nn, pn, xn, aa_cp hd (96 * a) (96 * b) 96, aa_cp sn (4 * a) (4 * b) 4, vb)) :
    wpX_copyState post (bl, up, nn, pn, xn, hd, sn, vb) (nI a) (nI b) := by
  unfold wpX_copyState
  have k := xa_cs (bl := bl) (up := up) (nn := nn) (pn := pn) (xn := xn) (hd := aa_cp hd (96 * a) (96 * b) 96) (vb := vb) ha hb (by unfold aa_ok; omega) h01 h 4 0 (by omega)
  rw [aa_cp0 sn] at k
  rw [gx_m96, gx_m96]
  exact xp_cp (c := 96) (by omega) (by omega) (by unfold aa_ok; omega) (Exists.intro 5 k)
theorem xa_zs {post : SX → Prop} {a : Nat} (ha : a < 3) (h : post (bl, up, nn, pn, xn, hd, aa_cl 0 sn (4 * a) 4, vb)) :
    ∀ d i, i + d = 4 → wX_clearState_12 post (nI a) bl up nn pn xn (d + 1) (nI i) hd (aa_cl 0 sn (4 * a) i) vb := by
  intro d
  induction d with
  | zero =>
    intro i hi
    have e : i = 4 := by omega
    subst e
    exact br_t (nI_le (a := 4) (b := 4) (by omega) (by omega)) h
  | succ d ih =>
    intro i hi
    have e1 : (nI a * 4) + nI i = nI (4 * a + i) := by
      show (nI a * nI 4) + nI i = _
      rw [pk_mul, nI_add]
      exact congrArg nI (by omega)
    refine br_f (nI_ge (b := 4) (by omega) (by omega)) ⟨?_, nm_r ?_ (nm_r (nI_1 i) (ih (i + 1) (by omega)))⟩
    · rw [e1]; exact vp_in_nI (by omega) (by omega)
    · rw [e1, nI_clamp (by omega), gg_vb (Or.inl rfl), aa_uI, aa_clS]
theorem xp_zs {post : SX → Prop} {a : Nat} (ha : a < 3) (h : post (bl, up, nn, pn, xn, aa_cl 0 hd (96 * a) 96, aa_cl 0 sn (4 * a) 4, vb)) :
    wpX_clearState post (bl, up, nn, pn, xn, hd, sn, vb) (nI a) := by
  unfold wpX_clearState
  have k := xa_zs (bl := bl) (up := up) (nn := nn) (pn := pn) (xn := xn) (hd := aa_cl 0 hd (96 * a) 96) (vb := vb) ha h 4 0 (by omega)
  rw [aa_cl0 0 sn] at k
  rw [gx_m96]
  exact xp_cl (c := 96) (by omega) (Exists.intro 5 k)
theorem xp_gd {post : SX → Prop} (h : post (bl, 0, nn, pn, xn, aa_cl 0 hd (96 * 0) 96, aa_cl 0 sn (4 * 0) 4, vb)) : wpX_goDown post (bl, up, nn, pn, xn, hd, sn, vb) := by
  unfold wpX_goDown
  exact xp_zs (a := 0) (by omega) h
/-! the methods: refused -/
theorem xn_write {post : Int32 → SX → Prop} {p0 p1 p2 p3 : Int32} (h : gg_out p0 2 ∨ gg_out p1 4 ∨ gg_out p2 4 ∨ up = 0) (hp : post (-1) (bl, up, nn, pn, xn, hd, sn, vb)) :
    wpX_write post (bl, up, nn, pn, xn, hd, sn, vb) p0 p1 p2 p3 := by
  unfold wpX_write
  exact gx_vol _ (fun _ => br_t rfl hp) (fun a => br_f gg_i1 (gx_file _ (fun _ => br_t rfl hp) (fun b => br_f gg_i1 (gx_place _ (fun _ => br_t rfl hp) (fun c => br_f gg_i1 (br_c (fun _ => hp) (fun d => absurd h (fun z => z.elim a (fun z => z.elim b (fun z => z.elim c d))))))))))
theorem xn_cut {post : Int32 → SX → Prop} {p0 p1 p2 : Int32} (h : gg_out p0 2 ∨ gg_out p1 4 ∨ gg_out p2 5 ∨ up = 0) (hp : post (-1) (bl, up, nn, pn, xn, hd, sn, vb)) :
    wpX_cut post (bl, up, nn, pn, xn, hd, sn, vb) p0 p1 p2 := by
  unfold wpX_cut
  exact gx_vol _ (fun _ => br_t rfl hp) (fun a => br_f gg_i1 (gx_file _ (fun _ => br_t rfl hp) (fun b => br_f gg_i1 (br_c (fun _ => hp) (fun c1 => br_c (fun _ => hp) (fun c2 => br_c (fun _ => hp) (fun d => absurd h (fun z => z.elim a (fun z => z.elim b (fun z => z.elim (fun z => z.elim c1 (fun z => c2 (Int32.lt_of_lt_of_le (show (4 : Int32) < nI 5 from by decide) z))) d))))))))))
theorem xn_copy {post : Int32 → SX → Prop} {p0 p1 p2 : Int32} (h : gg_out p0 2 ∨ gg_out p1 4 ∨ gg_out p2 4 ∨ up = 0) (hp : post (-1) (bl, up, nn, pn, xn, hd, sn, vb)) :
    wpX_copy post (bl, up, nn, pn, xn, hd, sn, vb) p0 p1 p2 := by
  unfold wpX_copy
  exact gx_vol _ (fun _ => br_t rfl hp) (fun a => br_f gg_i1 (gx_file _ (fun _ => br_t rfl hp) (fun b => br_f gg_i1 (gx_file _ (fun _ => br_t rfl hp) (fun c => br_f gg_i1 (br_c (fun _ => hp) (fun d => absurd h (fun z => z.elim a (fun z => z.elim b (fun z => z.elim c d))))))))))
theorem xn_swap {post : Int32 → SX → Prop} {p0 p1 p2 : Int32} (h : gg_out p0 2 ∨ gg_out p1 4 ∨ gg_out p2 4 ∨ up = 0) (hp : post (-1) (bl, up, nn, pn, xn, hd, sn, vb)) :
    wpX_swap post (bl, up, nn, pn, xn, hd, sn, vb) p0 p1 p2 := by
  unfold wpX_swap
  exact gx_vol _ (fun _ => br_t rfl hp) (fun a => br_f gg_i1 (gx_file _ (fun _ => br_t rfl hp) (fun b => br_f gg_i1 (gx_file _ (fun _ => br_t rfl hp) (fun c => br_f gg_i1 (br_c (fun _ => hp) (fun d => absurd h (fun z => z.elim a (fun z => z.elim b (fun z => z.elim c d))))))))))
theorem xn_move {post : Int32 → SX → Prop} {p0 p1 : Int32} (h : gg_out p0 2 ∨ gg_out p1 4 ∨ up = 0) (hp : post (-1) (bl, up, nn, pn, xn, hd, sn, vb)) :
    wpX_move post (bl, up, nn, pn, xn, hd, sn, vb) p0 p1 := by
  unfold wpX_move
  exact gx_vol _ (fun _ => br_t rfl hp) (fun a => br_f gg_i1 (gx_file _ (fun _ => br_t rfl hp) (fun b => br_f gg_i1 (br_c (fun _ => hp) (fun d => absurd h (fun z => z.elim a (fun z => z.elim b d)))))))
theorem xn_snapshot {post : Int32 → SX → Prop} {p0 p1 : Int32} (h : gg_out p0 2 ∨ gg_sn p1 ∨ up = 0) (hp : post (-1) (bl, up, nn, pn, xn, hd, sn, vb)) :
    wpX_snapshot post (bl, up, nn, pn, xn, hd, sn, vb) p0 p1 := by
  unfold wpX_snapshot
  exact gx_vol _ (fun _ => br_t rfl hp) (fun a => br_f gg_i1 (gx_snap _ (fun _ => br_t rfl hp) (fun b => br_f gg_i1 (br_c (fun _ => hp) (fun d => absurd h (fun z => z.elim a (fun z => z.elim b d)))))))
theorem xn_drop {post : Int32 → SX → Prop} {p0 p1 : Int32} (h : gg_out p0 2 ∨ gg_sn p1 ∨ up = 0) (hp : post (-1) (bl, up, nn, pn, xn, hd, sn, vb)) :
    wpX_drop post (bl, up, nn, pn, xn, hd, sn, vb) p0 p1 := by
  unfold wpX_drop
  exact gx_vol _ (fun _ => br_t rfl hp) (fun a => br_f gg_i1 (gx_snap _ (fun _ => br_t rfl hp) (fun b => br_f gg_i1 (br_c (fun _ => hp) (fun d => absurd h (fun z => z.elim a (fun z => z.elim b d)))))))
theorem xn_revert {post : Int32 → SX → Prop} {p0 p1 : Int32} (h : gg_out p0 2 ∨ gg_sn p1 ∨ up = 0) (hp : post (-1) (bl, up, nn, pn, xn, hd, sn, vb)) :
    wpX_revert post (bl, up, nn, pn, xn, hd, sn, vb) p0 p1 := by
  unfold wpX_revert
  exact gx_vol _ (fun _ => br_t rfl hp) (fun a => br_f gg_i1 (gx_snap _ (fun _ => br_t rfl hp) (fun b => br_f gg_i1 (br_c (fun _ => hp) (fun d => absurd h (fun z => z.elim a (fun z => z.elim b d)))))))
theorem xn_read {post : Int64 → Prop} {p0 p1 p2 p3 : Int32} (h : gg_out p0 2 ∨ gg_out p1 3 ∨ gg_out p2 4 ∨ gg_out p3 4 ∨ up = 0) (hp : post 4294967297) :
    wpX_read post (bl, up, nn, pn, xn, hd, sn, vb) p0 p1 p2 p3 := by
  unfold wpX_read
  exact gx_vol _ (fun _ => br_t rfl hp) (fun a => br_f gg_i1 (gx_tree _ (fun _ => br_t rfl hp) (fun b => br_f gg_i1 (gx_file _ (fun _ => br_t rfl hp) (fun c => br_f gg_i1 (gx_place _ (fun _ => br_t rfl hp) (fun d => br_f gg_i1 (br_c (fun _ => hp) (fun f => absurd h (fun z => z.elim a (fun z => z.elim b (fun z => z.elim c (fun z => z.elim d f)))))))))))))
theorem xn_shared {post : Int32 → Prop} {p0 p1 p2 : Int32} (h : gg_out p0 2 ∨ gg_out p1 3 ∨ gg_out p2 3 ∨ up = 0) (hp : post (-1)) :
    wpX_shared post (bl, up, nn, pn, xn, hd, sn, vb) p0 p1 p2 := by
  unfold wpX_shared
  exact gx_vol _ (fun _ => br_t rfl hp) (fun a => br_f gg_i1 (gx_tree _ (fun _ => br_t rfl hp) (fun b => br_f gg_i1 (gx_tree _ (fun _ => br_t rfl hp) (fun c => br_f gg_i1 (br_c (fun _ => hp) (fun d => absurd h (fun z => z.elim a (fun z => z.elim b (fun z => z.elim c d))))))))))
end XM
