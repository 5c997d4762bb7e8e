section YM
variable {nx bk : Int32} {sc : Int64} {sp : Nat → Int64} {vl hs th nu : Nat → Int32}
/-! the methods: refused -/
theorem yn_write {post : Int32 → SY → Prop} {p0 p1 p2 p3 : Int32} (h : gg_out p0 2 ∨ gg_out p1 4 ∨ gg_out p2 4 ∨ th 0 = 0) (hp : post (-1) (nx, sc, bk, sp, vl, hs, th, nu)) :
    wpY_write post (nx, sc, bk, sp, vl, hs, th, nu) p0 p1 p2 p3 := by
  unfold wpY_write
  exact gy_out _ 2 (fun _ => br_f gg_i1 hp) (fun a => br_t rfl (gy_out _ 4 (fun _ => br_f gg_i1 hp) (fun b => br_t rfl (gy_out _ 4 (fun _ => br_f gg_i1 hp) (fun c => br_t rfl (br_c (fun _ => hp) (fun d => absurd h (fun z => z.elim a (fun z => z.elim b (fun z => z.elim c d))))))))))
theorem yn_cut {post : Int32 → SY → Prop} {p0 p1 p2 : Int32} (h : gg_out p0 2 ∨ gg_out p1 4 ∨ gg_out p2 5 ∨ th 0 = 0) (hp : post (-1) (nx, sc, bk, sp, vl, hs, th, nu)) :
    wpY_cut post (nx, sc, bk, sp, vl, hs, th, nu) p0 p1 p2 := by
  unfold wpY_cut
  exact gy_out _ 2 (fun _ => br_f gg_i1 hp) (fun a => br_t rfl (gy_out _ 4 (fun _ => br_f gg_i1 hp) (fun b => br_t rfl (gy_out _ 5 (fun _ => br_f gg_i1 hp) (fun c => br_t rfl (br_c (fun _ => hp) (fun d => absurd h (fun z => z.elim a (fun z => z.elim b (fun z => z.elim c d))))))))))
theorem yn_copy {post : Int32 → SY → Prop} {p0 p1 p2 : Int32} (h : gg_out p0 2 ∨ gg_out p1 4 ∨ gg_out p2 4 ∨ th 0 = 0) (hp : post (-1) (nx, sc, bk, sp, vl, hs, th, nu)) :
    wpY_copy post (nx, sc, bk, sp, vl, hs, th, nu) p0 p1 p2 := by
  unfold wpY_copy
  exact gy_out _ 2 (fun _ => br_f gg_i1 hp) (fun a => br_t rfl (gy_out _ 4 (fun _ => br_f gg_i1 hp) (fun b => br_t rfl (gy_out _ 4 (fun _ => br_f gg_i1 hp) (fun c => br_t rfl (br_c (fun _ => hp) (fun d => absurd h (fun z => z.elim a (fun z => z.elim b (fun z => z.elim c d))))))))))
theorem yn_swap {post : Int32 → SY → Prop} {p0 p1 p2 : Int32} (h : gg_out p0 2 ∨ gg_out p1 4 ∨ gg_out p2 4 ∨ th 0 = 0) (hp : post (-1) (nx, sc, bk, sp, vl, hs, th, nu)) :
    wpY_swap post (nx, sc, bk, sp, vl, hs, th, nu) p0 p1 p2 := by
  unfold wpY_swap
  exact gy_out _ 2 (fun _ => br_f gg_i1 hp) (fun a => br_t rfl (gy_out _ 4 (fun _ => br_f gg_i1 hp) (fun b => br_t rfl (gy_out _ 4 (fun _ => br_f gg_i1 hp) (fun c => br_t rfl (br_c (fun _ => hp) (fun d => absurd h (fun z => z.elim a (fun z => z.elim b (fun z => z.elim c d))))))))))
theorem yn_move {post : Int32 → SY → Prop} {p0 p1 : Int32} (h : gg_out p0 2 ∨ gg_out p1 4 ∨ th 0 = 0) (hp : post (-1) (nx, sc, bk, sp, vl, hs, th, nu)) :
    wpY_move post (nx, sc, bk, sp, vl, hs, th, nu) p0 p1 := by
  unfold wpY_move
  exact gy_out _ 2 (fun _ => br_f gg_i1 hp) (fun a => br_t rfl (gy_out _ 4 (fun _ => br_f gg_i1 hp) (fun b => br_t rfl (br_c (fun _ => hp) (fun d => absurd h (fun z => z.elim a (fun z => z.elim b d)))))))
theorem yn_snapshot {post : Int32 → SY → Prop} {p0 p1 : Int32} (h : gg_out p0 2 ∨ gg_sn p1 ∨ th 0 = 0) (hp : post (-1) (nx, sc, bk, sp, vl, hs, th, nu)) :
    wpY_snapshot post (nx, sc, bk, sp, vl, hs, th, nu) p0 p1 := by
  unfold wpY_snapshot
  exact gy_out _ 2 (fun _ => br_f gg_i1 hp) (fun a => br_t rfl (br_c (fun _ => hp) (fun b0 => gy_out _ 3 (fun _ => br_f gg_i1 hp) (fun b => br_t rfl (br_c (fun _ => hp) (fun d => absurd h (fun z => z.elim a (fun z => z.elim (fun z => (gg_snOut z).elim b0 b) d))))))))
theorem yn_drop {post : Int32 → SY → Prop} {p0 p1 : Int32} (h : gg_out p0 2 ∨ gg_sn p1 ∨ th 0 = 0) (hp : post (-1) (nx, sc, bk, sp, vl, hs, th, nu)) :
    wpY_drop post (nx, sc, bk, sp, vl, hs, th, nu) p0 p1 := by
  unfold wpY_drop
  exact gy_out _ 2 (fun _ => br_f gg_i1 hp) (fun a => br_t rfl (br_c (fun _ => hp) (fun b0 => gy_out _ 3 (fun _ => br_f gg_i1 hp) (fun b => br_t rfl (br_c (fun _ => hp) (fun d => absurd h (fun z => z.elim a (fun z => z.elim (fun z => (gg_snOut z).elim b0 b) d))))))))
theorem yn_revert {post : Int32 → SY → Prop} {p0 p1 : Int32} (h : gg_out p0 2 ∨ gg_sn p1 ∨ th 0 = 0) (hp : post (-1) (nx, sc, bk, sp, vl, hs, th, nu)) :
    wpY_revert post (nx, sc, bk, sp, vl, hs, th, nu) p0 p1 := by
  unfold wpY_revert
  exact gy_out _ 2 (fun _ => br_f gg_i1 hp) (fun a => br_t rfl (br_c (fun _ => hp) (fun b0 => gy_out _ 3 (fun _ => br_f gg_i1 hp) (fun b => br_t rfl (br_c (fun _ => hp) (fun d => absurd h (fun z => z.elim a (fun z => z.elim (fun z => (gg_snOut z).elim b0 b) d))))))))
theorem yn_read {post : Int64 → Prop} {p0 p1 p2 p3 : Int32} (h : gg_out p0 2 ∨ gg_out p1 3 ∨ gg_out p2 4 ∨ gg_out p3 4 ∨ th 0 = 0) (hp : post 4294967297) :
    wpY_read post (nx, sc, bk, sp, vl, hs, th, nu) p0 p1 p2 p3 := by
  unfold wpY_read
  exact gy_out _ 2 (fun _ => br_f gg_i1 hp) (fun a => br_t rfl (gy_out _ 3 (fun _ => br_f gg_i1 hp) (fun b => br_t rfl (gy_out _ 4 (fun _ => br_f gg_i1 hp) (fun c => br_t rfl (gy_out _ 4 (fun _ => br_f gg_i1 hp) (fun d => br_t rfl (br_c (fun _ => hp) (fun f => absurd h (fun z => z.elim a (fun z => z.elim b (fun z => z.elim c (fun z => z.elim d f)))))))))))))
theorem yn_shared {post : Int32 → Prop} {p0 p1 p2 : Int32} (h : gg_out p0 2 ∨ gg_out p1 3 ∨ gg_out p2 3 ∨ th 0 = 0) (hp : post (-1)) :
    wpY_shared post (nx, sc, bk, sp, vl, hs, th, nu) p0 p1 p2 := by
  unfold wpY_shared
  exact gy_out _ 2 (fun _ => br_f gg_i1 hp) (fun a => br_t rfl (gy_out _ 3 (fun _ => br_f gg_i1 hp) (fun b => br_t rfl (gy_out _ 3 (fun _ => br_f gg_i1 hp) (fun c => br_t rfl (br_c (fun _ => hp) (fun d => absurd h (fun z => z.elim a (fun z => z.elim b (fun z => z.elim c d))))))))))
end YM
