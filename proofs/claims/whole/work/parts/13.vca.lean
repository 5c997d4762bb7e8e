section VA
theorem ry_3 {p0 p1 p2 : Int32} {a b c : Nat} {d : Prop} (ha : a < 2 ^ 31) (hb : b < 2 ^ 31) (hc : c < 2 ^ 31) (h : ¬ (gg_out p0 a ∨ gg_out p1 b ∨ gg_out p2 c ∨ d)) :
    ∃ x y z : Nat, x < a ∧ y < b ∧ z < c ∧ p0 = nI x ∧ p1 = nI y ∧ p2 = nI z ∧ ¬ d := by
  obtain ⟨x, hx, ex⟩ := gg_in ha (fun z => h (Or.inl z))
  obtain ⟨y, hy, ey⟩ := gg_in hb (fun z => h (Or.inr (Or.inl z)))
  obtain ⟨w, hw, ew⟩ := gg_in hc (fun z => h (Or.inr (Or.inr (Or.inl z))))
  exact ⟨x, y, w, hx, hy, hw, ex, ey, ew, fun z => h (Or.inr (Or.inr (Or.inr z)))⟩
theorem ry_u {f : Nat → Int32} {t : Nat} {x : Int32} : upd (upd f t x) t (f t) = f := by
  funext j
  by_cases g : j = t
  · rw [g, pk_us]
  · rw [pk_un g, pk_un g]
theorem ry_uL {f : Nat → Int64} {t : Nat} {x : Int64} : vp_updL (vp_updL f t x) t (f t) = f := by
  funext j
  by_cases g : j = t
  · rw [g, pk_uLs]
  · rw [pk_uLn g, pk_uLn g]
theorem i_vc_write {k : Nat} {u : SX} {v : SY} (I : i_Rel k u v) (hk : k + 5 ≤ 2561) (v1 : Int32) (v2 : Int32) (v3 : Int32) (v4 : Int32) : wpX_write (fun r u' => wpY_write (fun r' v' => r' = r ∧ i_Rel (k + 5) u' v') v v1 v2 v3 v4) u v1 v2 v3 v4 := by
  have J := i_up I
  obtain ⟨B, T, q, hd, sn, vb, sp, vl, hs, th, nu, rfl, rfl, hB, hT, q1, q2, C, E, N⟩ := I
  by_cases bad : gg_out v1 2 ∨ gg_out v2 4 ∨ gg_out v3 4 ∨ th 0 = 0
  · exact xn_write bad (yn_write bad ⟨rfl, J⟩)
  · obtain ⟨x, f, p, hx, hf, hp, rfl, rfl, rfl, hup⟩ := ry_3 (by omega) (by omega) (by omega) bad
    refine xv_write hx hf hp hup hB (rc_b C (by omega)) (fun b b0 hb hkp => ?_) (fun hall => ?_)
    · have e := rr_new C (Nat.le_refl B) (t := 48 * x + 4 * f + p) (b := b) (M := 25) (by omega) b0 hb hkp (by omega) (by omega) (by omega)
      have e2 := rr_free C hB b0 hb hkp
      refine yv_write hx hf hp hup hB (fun _ => ⟨by rw [e], ?_⟩) (fun hlt => absurd hlt (by omega))
      exact ri_mk hB (by omega) q1 (by omega) (rr_put C (Nat.le_refl B) (by omega) b0 hb hkp (by omega) v4) (re_hd E hup (fun j hj => pk_un (by omega))) (rn_k N (by omega)) rfl rfl rfl
    · have hk25 : ¬ rr_kept hd (48 * x + 4 * f + p) 25 := by
        rintro ⟨_, i, hi, _, e⟩
        obtain ⟨d, hd1, e3⟩ := C.1 i hi
        rw [e3, nI_eq (by omega) (by omega)] at e
        omega
      have e := rr_new C (B' := 25) (by omega) (t := 48 * x + 4 * f + p) (b := 25) (M := 26) (by omega) (by omega) (by omega) hk25 (by omega) (by omega) (by omega)
      have e2 := rr_full C hB hall
      refine yv_write hx hf hp hup hB (fun hle => absurd hle (by omega)) (fun _ => ⟨rfl, ?_⟩)
      rw [ry_u, ry_uL]
      exact ri_mk hB (by omega) q1 (by omega) (rr_T C (by omega)) E (rn_k N (by omega)) rfl rfl rfl
theorem i_vc_cut {k : Nat} {u : SX} {v : SY} (I : i_Rel k u v) (hk : k + 5 ≤ 2561) (v1 : Int32) (v2 : Int32) (v3 : Int32) : wpX_cut (fun r u' => wpY_cut (fun r' v' => r' = r ∧ i_Rel (k + 5) u' v') v v1 v2 v3) u v1 v2 v3 := by
  have J := i_up I
  obtain ⟨B, T, q, hd, sn, vb, sp, vl, hs, th, nu, rfl, rfl, hB, hT, q1, q2, C, E, N⟩ := I
  by_cases bad : gg_out v1 2 ∨ gg_out v2 4 ∨ gg_out v3 5 ∨ th 0 = 0
  · exact xn_cut bad (yn_cut bad ⟨rfl, J⟩)
  · obtain ⟨x, f, l, hx, hf, hl, rfl, rfl, rfl, hup⟩ := ry_3 (by omega) (by omega) (by omega) bad
    exact xv_cut hx hf hl hup (yv_cut hx hf hl hup ⟨rc_cnt C (by omega), ri_mk hB (by omega) q1 (by omega) (rr_cl C) (re_hd E hup (fun j hj => aa_clO 0 hd (by omega))) (rn_k N (by omega)) rfl rfl rfl⟩)
theorem i_vc_copy {k : Nat} {u : SX} {v : SY} (I : i_Rel k u v) (hk : k + 5 ≤ 2561) (v1 : Int32) (v2 : Int32) (v3 : Int32) : wpX_copy (fun r u' => wpY_copy (fun r' v' => r' = r ∧ i_Rel (k + 5) u' v') v v1 v2 v3) u v1 v2 v3 := by
  have J := i_up I
  obtain ⟨B, T, q, hd, sn, vb, sp, vl, hs, th, nu, rfl, rfl, hB, hT, q1, q2, C, E, N⟩ := I
  by_cases bad : gg_out v1 2 ∨ gg_out v2 4 ∨ gg_out v3 4 ∨ th 0 = 0
  · exact xn_copy bad (yn_copy bad ⟨rfl, J⟩)
  · obtain ⟨x, a, b, hx, ha, hb, rfl, rfl, rfl, hup⟩ := ry_3 (by omega) (by omega) (by omega) bad
    have C' := rr_cp C (s := 48 * x + 4 * a) (t := 48 * x + 4 * b) (c := 4) (by omega)
    exact xv_copy hx ha hb hup (yv_copy hx ha hb hup ⟨rc_cnt C' (by omega), ri_mk hB (by omega) q1 (by omega) C' (re_hd E hup (fun j hj => aa_cpO hd (by omega))) (rn_k N (by omega)) rfl rfl rfl⟩)
theorem i_vc_swap {k : Nat} {u : SX} {v : SY} (I : i_Rel k u v) (hk : k + 5 ≤ 2561) (v1 : Int32) (v2 : Int32) (v3 : Int32) : wpX_swap (fun r u' => wpY_swap (fun r' v' => r' = r ∧ i_Rel (k + 5) u' v') v v1 v2 v3) u v1 v2 v3 := by
  have J := i_up I
  obtain ⟨B, T, q, hd, sn, vb, sp, vl, hs, th, nu, rfl, rfl, hB, hT, q1, q2, C, E, N⟩ := I
  by_cases bad : gg_out v1 2 ∨ gg_out v2 4 ∨ gg_out v3 4 ∨ th 0 = 0
  · exact xn_swap bad (yn_swap bad ⟨rfl, J⟩)
  · obtain ⟨x, a, b, hx, ha, hb, rfl, rfl, rfl, hup⟩ := ry_3 (by omega) (by omega) (by omega) bad
    have R : i_Rel (k + 5) (nI B, th 0, nu 1, nu 2, nI q, aa_sw hd (48 * x + 4 * a) (48 * x + 4 * b) 4, sn, vb) (nI q, lN T, nI B, aa_sw sp (48 * x + 4 * a) (48 * x + 4 * b) 4, aa_sw vl (48 * x + 4 * a) (48 * x + 4 * b) 4, hs, th, nu) :=
      ri_mk hB (by omega) q1 (by omega) (rr_sw C (by omega) (by omega)) (re_hd E hup (fun j hj => aa_swO hd (by omega) (by omega))) (rn_k N (by omega)) rfl rfl rfl
    exact xv_swap hx ha hb hup (fun e => yv_swap hx ha hb hup (fun _ => ⟨rfl, R⟩) (fun n => absurd e n)) (fun n => yv_swap hx ha hb hup (fun e => absurd e n) (fun _ => ⟨rfl, R⟩))
theorem ry_2 {p0 p1 : Int32} {a b : Nat} {d : Prop} (ha : a < 2 ^ 31) (hb : b < 2 ^ 31) (h : ¬ (gg_out p0 a ∨ gg_out p1 b ∨ d)) :
    ∃ x y : Nat, x < a ∧ y < b ∧ p0 = nI x ∧ p1 = nI y ∧ ¬ d := by
  obtain ⟨x, hx, ex⟩ := gg_in ha (fun z => h (Or.inl z))
  obtain ⟨y, hy, ey⟩ := gg_in hb (fun z => h (Or.inr (Or.inl z)))
  exact ⟨x, y, hx, hy, ex, ey, fun z => h (Or.inr (Or.inr z))⟩
theorem ry_s {p0 p1 : Int32} {d : Prop} (h : ¬ (gg_out p0 2 ∨ gg_sn p1 ∨ d)) : ∃ x t : Nat, x < 2 ∧ 1 ≤ t ∧ t < 3 ∧ p0 = nI x ∧ p1 = nI t ∧ ¬ d := by
  obtain ⟨x, hx, ex⟩ := gg_in (by omega) (fun z => h (Or.inl z))
  obtain ⟨t, h1, ht, et⟩ := gg_snIn (fun z => h (Or.inr (Or.inl z)))
  exact ⟨x, t, hx, h1, ht, ex, et, fun z => h (Or.inr (Or.inr z))⟩
theorem i_vc_move {k : Nat} {u : SX} {v : SY} (I : i_Rel k u v) (hk : k + 5 ≤ 2561) (v1 : Int32) (v2 : Int32) : wpX_move (fun r u' => wpY_move (fun r' v' => r' = r ∧ i_Rel (k + 5) u' v') v v1 v2) u v1 v2 := by
  have J := i_up I
  obtain ⟨B, T, q, hd, sn, vb, sp, vl, hs, th, nu, rfl, rfl, hB, hT, q1, q2, C, E, N⟩ := I
  by_cases bad : gg_out v1 2 ∨ gg_out v2 4 ∨ th 0 = 0
  · exact xn_move bad (yn_move bad ⟨rfl, J⟩)
  · obtain ⟨x, f, hx, hf, rfl, rfl, hup⟩ := ry_2 (by omega) (by omega) bad
    have C' := rr_cl (rr_cp C (s := 48 * x + 4 * f) (t := 48 * (1 - x) + 4 * f) (c := 4) (by omega)) (s := 48 * x + 4 * f) (c := 4)
    exact xv_move hx hf hup (yv_move hx hf hup ⟨rc_cnt C' (by omega), ri_mk hB (by omega) q1 (by omega) C' (re_hd E hup (fun j hj => by rw [aa_clO 0 _ (by omega), aa_cpO hd (by omega)])) (rn_k N (by omega)) rfl rfl rfl⟩)
theorem i_vc_snapshot {k : Nat} {u : SX} {v : SY} (I : i_Rel k u v) (hk : k + 5 ≤ 2561) (v1 : Int32) (v2 : Int32) : wpX_snapshot (fun r u' => wpY_snapshot (fun r' v' => r' = r ∧ i_Rel (k + 5) u' v') v v1 v2) u v1 v2 := by
  have J := i_up I
  obtain ⟨B, T, q, hd, sn, vb, sp, vl, hs, th, nu, rfl, rfl, hB, hT, q1, q2, C, E, N⟩ := I
  by_cases bad : gg_out v1 2 ∨ gg_sn v2 ∨ th 0 = 0
  · exact xn_snapshot bad (yn_snapshot bad ⟨rfl, J⟩)
  · obtain ⟨x, t, hx, h1, ht, rfl, rfl, hup⟩ := ry_s bad
    have hh := re_has E hup hx ht
    have C' := rr_cp C (s := 48 * x + 16 * 0) (t := 48 * x + 16 * t) (c := 16) (by omega)
    have e : nI (cc_n (fun j => ¬ aa_cp sp (48 * x + 16 * 0) (48 * x + 16 * t) 16 (48 * x + j) = 0) 16) = nI (cc_n (fun j => ¬ aa_cp hd (48 * x + 16 * 0) (48 * x + 16 * t) 16 (48 * x + 16 * t + j) = 0) 16) := by
      refine congrArg nI (cc_ext 16 (fun j hj => ?_))
      rw [aa_cpI hd hj, aa_cpO sp (by omega), show 48 * x + 16 * 0 + j = 48 * x + j from by omega, C.2.2.1 (48 * x + j) (by omega)]
    exact xv_snapshot hx h1 ht hup (fun z => yv_snapshot hx h1 ht hup (fun _ => ⟨rfl, J⟩) (fun n => absurd (hh.mp n).2 z))
      (fun z => yv_snapshot hx h1 ht hup (fun n => absurd (hh.mpr ⟨by omega, z⟩) n) (fun _ => ⟨e, ri_mk hB (by omega) q1 (by omega) C' (re_sn (re_hd E hup (fun j hj => aa_cpO hd (by omega))) hup hx h1 ht (Or.inr rfl)) (rn_k N (by omega)) rfl rfl rfl⟩))
theorem i_vc_drop {k : Nat} {u : SX} {v : SY} (I : i_Rel k u v) (hk : k + 5 ≤ 2561) (v1 : Int32) (v2 : Int32) : wpX_drop (fun r u' => wpY_drop (fun r' v' => r' = r ∧ i_Rel (k + 5) u' v') v v1 v2) u v1 v2 := by
  have J := i_up I
  obtain ⟨B, T, q, hd, sn, vb, sp, vl, hs, th, nu, rfl, rfl, hB, hT, q1, q2, C, E, N⟩ := I
  by_cases bad : gg_out v1 2 ∨ gg_sn v2 ∨ th 0 = 0
  · exact xn_drop bad (yn_drop bad ⟨rfl, J⟩)
  · obtain ⟨x, t, hx, h1, ht, rfl, rfl, hup⟩ := ry_s bad
    have hh := re_has E hup hx ht
    have C' := rr_cl C (s := 48 * x + 16 * t) (c := 16)
    exact xv_drop hx h1 ht hup (rc_b C' (by omega)) (fun z => yv_drop hx h1 ht hup (fun _ => ⟨rfl, J⟩) (fun n => absurd (hh.mpr ⟨by omega, z⟩) n))
      (fun z => yv_drop hx h1 ht hup (fun n => absurd (hh.mp n).2 z) (fun _ => ⟨rc_use C' hB, ri_mk hB (by omega) q1 (by omega) C' (re_sn (re_hd E hup (fun j hj => aa_clO 0 hd (by omega))) hup hx h1 ht (Or.inl rfl)) (rn_k N (by omega)) rfl rfl rfl⟩))
theorem i_vc_revert {k : Nat} {u : SX} {v : SY} (I : i_Rel k u v) (hk : k + 5 ≤ 2561) (v1 : Int32) (v2 : Int32) : wpX_revert (fun r u' => wpY_revert (fun r' v' => r' = r ∧ i_Rel (k + 5) u' v') v v1 v2) u v1 v2 := by
  have J := i_up I
  obtain ⟨B, T, q, hd, sn, vb, sp, vl, hs, th, nu, rfl, rfl, hB, hT, q1, q2, C, E, N⟩ := I
  by_cases bad : gg_out v1 2 ∨ gg_sn v2 ∨ th 0 = 0
  · exact xn_revert bad (yn_revert bad ⟨rfl, J⟩)
  · obtain ⟨x, t, hx, h1, ht, rfl, rfl, hup⟩ := ry_s bad
    have hh := re_has E hup hx ht
    have C' := rr_cp C (s := 48 * x + 16 * t) (t := 48 * x + 16 * 0) (c := 16) (by omega)
    exact xv_revert hx h1 ht hup (rc_b C' (by omega)) (fun z => yv_revert hx h1 ht hup (fun _ => ⟨rfl, J⟩) (fun n => absurd (hh.mpr ⟨by omega, z⟩) n))
      (fun z => yv_revert hx h1 ht hup (fun n => absurd (hh.mp n).2 z) (fun _ => ⟨rc_use C' hB, ri_mk hB (by omega) q1 (by omega) C' (re_hd E hup (fun j hj => aa_cpO hd (by omega))) (rn_k N (by omega)) rfl rfl rfl⟩))
theorem i_vc_read {k : Nat} {u : SX} {v : SY} (I : i_Rel k u v) (hk : k + 5 ≤ 2561) (v1 : Int32) (v2 : Int32) (v3 : Int32) (v4 : Int32) : wpX_read (fun r => wpY_read (fun r' => r' = r ∧ i_Rel (k + 5) u v) v v1 v2 v3 v4) u v1 v2 v3 v4 := by
  have J := i_up I
  obtain ⟨B, T, q, hd, sn, vb, sp, vl, hs, th, nu, rfl, rfl, hB, hT, q1, q2, C, E, N⟩ := I
  by_cases bad : gg_out v1 2 ∨ gg_out v2 3 ∨ gg_out v3 4 ∨ gg_out v4 4 ∨ th 0 = 0
  · exact xn_read bad (yn_read bad ⟨rfl, J⟩)
  · obtain ⟨x, t, f, hx, ht, hf, rfl, rfl, rfl, hup4⟩ := ry_3 (by omega) (by omega) (by omega) bad
    obtain ⟨p, hp, rfl⟩ := gg_in (by omega) (fun z => hup4 (Or.inl z))
    have hup : ¬ th 0 = 0 := fun z => hup4 (Or.inr z)
    have hh := re_has E hup hx ht
    have nh : (t = 0 ∨ ¬ sn (2 * x + (t - 1)) = 0) → ¬ hs (3 * x + t) = 0 := by
      intro z n
      obtain ⟨a, b⟩ := hh.mp n
      exact z.elim a (fun c => c b)
    have c3 := C.2.2.1 (48 * x + 16 * t + 4 * f + p) (by omega)
    have c5 := C.2.2.2.2 (48 * x + 16 * t + 4 * f + p) (by omega)
    exact xv_read hx ht hf hp hup (rc_b C (by omega))
      (fun z0 z => yv_read hx ht hf hp hup (fun _ => ⟨rfl, J⟩) (fun n => absurd (hh.mpr ⟨z0, z⟩) n) (fun n => absurd (hh.mpr ⟨z0, z⟩) n))
      (fun z e => yv_read hx ht hf hp hup (fun n => absurd n (nh z)) (fun _ _ => ⟨rfl, J⟩) (fun _ n => absurd (c3.mpr e) n))
      (fun z e => yv_read hx ht hf hp hup (fun n => absurd n (nh z)) (fun _ n => absurd (c3.mp n) e) (fun _ _ => ⟨by rw [c5 e], J⟩))
theorem i_vc_shared {k : Nat} {u : SX} {v : SY} (I : i_Rel k u v) (hk : k + 5 ≤ 2561) (v1 : Int32) (v2 : Int32) (v3 : Int32) : wpX_shared (fun r => wpY_shared (fun r' => r' = r ∧ i_Rel (k + 5) u v) v v1 v2 v3) u v1 v2 v3 := by
  have J := i_up I
  obtain ⟨B, T, q, hd, sn, vb, sp, vl, hs, th, nu, rfl, rfl, hB, hT, q1, q2, C, E, N⟩ := I
  by_cases bad : gg_out v1 2 ∨ gg_out v2 3 ∨ gg_out v3 3 ∨ th 0 = 0
  · exact xn_shared bad (yn_shared bad ⟨rfl, J⟩)
  · obtain ⟨x, a, b, hx, ha, hb, rfl, rfl, rfl, hup⟩ := ry_3 (by omega) (by omega) (by omega) bad
    have hA := re_has E hup hx ha
    have hC := re_has E hup hx hb
    have e : cc_n (rr_fst sp (48 * x + 16 * a) (fun s => ∃ j, j < 16 ∧ sp (48 * x + 16 * b + j) = s)) 16 = cc_n (fun w => w ≠ 0 ∧ rr_has hd (48 * x + 16 * a) 16 w ∧ rr_has hd (48 * x + 16 * b) 16 w) 25 := by
      refine rr_count C (by omega) (by omega) (by omega) (fun i w hi ew hw w0 => ?_)
      constructor
      · rintro ⟨j, hj, ej⟩
        exact ⟨j, hj, by rw [← ew]; exact (C.2.2.2.1 _ _ (by omega) (by omega)).mp ej⟩
      · rintro ⟨j, hj, ej⟩
        exact ⟨j, hj, (C.2.2.2.1 _ _ (by omega) (by omega)).mpr (by rw [ej, ew])⟩
    refine xv_shared hx ha hb hup (rc_b C (by omega)) (fun z => yv_shared hx ha hb hup (fun _ => ⟨rfl, J⟩) (fun na nb => ?_)) (fun za zb => yv_shared hx ha hb hup (fun n => ?_) (fun _ _ => ⟨by rw [e], J⟩))
    · rcases z with z | z
      · exact absurd (hA.mpr z) na
      · exact absurd (hC.mpr z) nb
    · rcases n with n | n
      · obtain ⟨p, r⟩ := hA.mp n
        exact za.elim (fun c => absurd c p) (fun c => absurd r c)
      · obtain ⟨p, r⟩ := hC.mp n
        exact zb.elim (fun c => absurd c p) (fun c => absurd r c)
theorem i_vc_used {k : Nat} {u : SX} {v : SY} (I : i_Rel k u v) (hk : k + 5 ≤ 2561) : wpX_used (fun r => wpY_used (fun r' => r' = r ∧ i_Rel (k + 5) u v) v) u := by
  have J := i_up I
  obtain ⟨B, T, q, hd, sn, vb, sp, vl, hs, th, nu, rfl, rfl, hB, hT, q1, q2, C, E, N⟩ := I
  unfold wpX_used wpY_used
  exact br_c (fun z => br_t z ⟨rfl, J⟩) (fun z => xp_iu (rc_b C (by omega)) (br_f z (yp_iu ⟨rc_use C hB, J⟩)))
end VA
