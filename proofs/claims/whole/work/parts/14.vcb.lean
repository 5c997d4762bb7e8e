section VB
theorem rz_01 {x : Int32} (h : x = 0 ∨ x = 1) (n : ¬ x = 0) : (1 : Int32) = x := (h.resolve_left n).symm
theorem i_vc0 (k0 : Int32) : wpX_init (fun u => wpY_init (fun v => i_Rel 1 u v) k0) k0 := by
  have key : ∀ B, B ≤ 24 → i_Rel 1 (nI B, 1, 0, 0, 1, (fun _ => 0), (fun _ => 0), (fun _ => 0)) (1, 0, nI B, (fun _ => 0), (fun _ => 0), upd (upd (fun _ => 0) 0 (vp_nar .boolean 1)) 3 (vp_nar .boolean 1), upd (fun _ => 0) 0 (vp_nar .boolean 1), (fun _ => 0)) := by
    intro B hB
    rw [gg_vb (Or.inr rfl)]
    refine ri_mk (T := 0) (q := 1) hB (by omega) (by omega) (by omega) ?_ ?_ ?_ rfl rfl rfl
    · exact ⟨fun j _ => ⟨0, by omega, rfl⟩, fun j _ => ⟨0, by omega, rfl⟩, fun j _ => ⟨fun _ => rfl, fun _ => rfl⟩, fun i j _ _ => ⟨fun _ => rfl, fun _ => rfl⟩, fun j _ n => absurd rfl n⟩
    · refine ⟨fun _ => Or.inl rfl, aa_up01 (aa_up01 (fun _ => Or.inl rfl) (Or.inr rfl)) (Or.inr rfl), aa_up01 (fun _ => Or.inl rfl) (Or.inr rfl), fun s v t hs hv ht => ?_, fun s v hs hv => ?_, fun s hs z => ⟨fun _ _ => rfl, fun _ _ => rfl⟩⟩
      · rw [pk_un (by omega), pk_un (by omega)]
      · by_cases g : s = 0
        · subst g
          rw [pk_us]
          by_cases g2 : v = 0
          · subst g2; rw [pk_un (by omega), pk_us]
          · rw [show 6 * 0 + 3 * v = 3 from by omega, pk_us]
        · rw [pk_un (by omega), pk_un (by omega), pk_un g]
    · exact ⟨⟨0, by omega, rfl⟩, ⟨0, by omega, rfl⟩, ⟨fun _ => rfl, fun _ => rfl⟩, ⟨fun _ => rfl, fun _ => rfl⟩, fun _ => rfl⟩
  unfold wpX_init wpY_init
  refine br_c (fun a => br_c (fun b => ?_) (fun b => br_t a (br_f b (nm_e (nm_e (nm_e (key 24 (by omega)))))))) (fun a => br_f a (nm_e (nm_e (nm_e (key 4 (by omega))))))
  have n0 : ¬ k0 < 0 := Int32.not_lt.mpr (Int32.le_trans (by decide) a)
  obtain ⟨j, hj, rfl⟩ := nI_of n0
  have hb : j ≤ 24 := (nI_leI (b := 24) hj (by omega)).mp b
  exact br_t a (br_t b (nm_e (nm_e (nm_e (key j hb)))))
theorem i_vc_sync {k : Nat} {u : SX} {v : SY} (I : i_Rel k u v) (hk : k + 5 ≤ 2561) (v1 : Int32) : wpX_sync (fun r u' => wpY_sync (fun r' v' => r' = r ∧ i_Rel (k + 5) u' v') v v1) u v1 := by
  have J := i_up I
  obtain ⟨B, T, q, hd, sn, vb, sp, vl, hs, th, nu, rfl, rfl, hB, hT, q1, q2, C, E, N⟩ := I
  obtain ⟨⟨m, hm, em⟩, ⟨m', hm', em'⟩, n3, n4, n5⟩ := N
  have s01 := E.1
  have h01 := E.2.1
  have t01 := E.2.2.1
  unfold wpX_sync wpY_sync
  refine br_c (fun z => br_t z ⟨rfl, J⟩) (fun z => br_c (fun e => ?_) (fun e => ?_))
  · refine xp_cs (a := 1) (b := 2) (by omega) (by omega) s01 (xp_cs (a := 0) (b := 1) (by omega) (by omega) (aa_cp01 s01) (nm_r (nI_1 q) (br_f z (br_t e ?_))))
    refine yp_cs (a := 1) (b := 2) (by omega) (by omega) h01 t01 (yp_cs (a := 0) (b := 1) (by omega) (by omega) (aa_cp01 h01) (aa_up01 t01 (t01 1)) (nm_e (nm_r (nI_1 q) ⟨rfl, ?_⟩)))
    have nq : ¬ nI q = 0 := nI_ne0 (by omega) (by omega)
    exact ri_mk hB (by omega) (by omega) (by omega) (rr_cp (rr_cp C (by omega)) (by omega)) (re_cs (re_cs E (by omega) (by omega)) (by omega) (by omega))
      ⟨⟨q, by omega, rfl⟩, ⟨m, by omega, em⟩, ⟨fun y => absurd y nq, fun y => absurd y z⟩, n3, fun y => absurd y z⟩ rfl rfl rfl
  · refine xp_zs (a := 2) (by omega) (xp_gd (br_f z (br_f e ?_)))
    refine yp_zs (a := 2) (by omega) (yp_zs (a := 0) (by omega) ⟨rfl, ?_⟩)
    exact ri_mk hB (by omega) q1 (by omega) (rr_cl (rr_cl C)) (re_zs (re_zs E (by omega)) (by omega))
      ⟨⟨m, by omega, em⟩, ⟨0, by omega, rfl⟩, n3, ⟨fun _ => rfl, fun _ => rfl⟩, fun _ => rfl⟩ rfl rfl rfl
theorem i_vc_crash {k : Nat} {u : SX} {v : SY} (I : i_Rel k u v) (hk : k + 5 ≤ 2561) : wpX_crash (fun r u' => wpY_crash (fun r' v' => r' = r ∧ i_Rel (k + 5) u' v') v) u := by
  have J := i_up I
  obtain ⟨B, T, q, hd, sn, vb, sp, vl, hs, th, nu, rfl, rfl, hB, hT, q1, q2, C, E, N⟩ := I
  obtain ⟨⟨m, hm, em⟩, ⟨m', hm', em'⟩, n3, n4, n5⟩ := N
  unfold wpX_crash wpY_crash
  refine br_c (fun z => br_t z ⟨rfl, J⟩) (fun z => xp_gd (br_f z (yp_zs (a := 0) (by omega) ⟨rfl, ?_⟩)))
  exact ri_mk hB (by omega) q1 (by omega) (rr_cl C) (re_zs E (by omega)) ⟨⟨m, by omega, em⟩, ⟨m', by omega, em'⟩, n3, n4, n5⟩ rfl rfl rfl
theorem i_vc_damage {k : Nat} {u : SX} {v : SY} (I : i_Rel k u v) (hk : k + 5 ≤ 2561) (v1 : Int32) : wpX_damage (fun r u' => wpY_damage (fun r' v' => r' = r ∧ i_Rel (k + 5) u' v') v v1) u v1 := by
  have J := i_up I
  obtain ⟨B, T, q, hd, sn, vb, sp, vl, hs, th, nu, rfl, rfl, hB, hT, q1, q2, C, E, N⟩ := I
  obtain ⟨⟨m, hm, em⟩, ⟨m', hm', em'⟩, n3, n4, n5⟩ := N
  have s01 := E.1
  have h01 := E.2.1
  have t01 := E.2.2.1
  unfold wpX_damage wpY_damage
  refine br_c (fun z => br_c (fun y => br_t z (br_t (n3.mp y) ⟨rfl, J⟩)) (fun y => ?_)) (fun z => br_f z ⟨rfl, J⟩)
  have R : i_Rel (k + 5) (nI B, th 0, nu 2, 0, nI q, aa_cl 0 (aa_cp hd (96 * 2) (96 * 1) 96) (96 * 2) 96, aa_cl 0 (aa_cp sn (4 * 2) (4 * 1) 4) (4 * 2) 4, vb)
      (nI q, lN T, nI B, aa_cl 0 (aa_cp sp (96 * 2) (96 * 1) 96) (96 * 2) 96, aa_cp vl (96 * 2) (96 * 1) 96, aa_cl 0 (aa_cp hs (6 * 2) (6 * 1) 6) (6 * 2) 6, upd (upd th 1 (th 2)) 2 0, upd (upd nu 1 (nu 2)) 2 0) :=
    ri_mk hB (by omega) q1 (by omega) (rr_cl (rr_cp C (by omega))) (re_zs (re_cs E (by omega) (by omega)) (by omega))
      ⟨⟨m', by omega, em'⟩, ⟨0, by omega, rfl⟩, n4, ⟨fun _ => rfl, fun _ => rfl⟩, fun _ => rfl⟩ rfl rfl rfl
  refine xp_cs (a := 2) (b := 1) (by omega) (by omega) s01 (xp_zs (a := 2) (by omega) ?_)
  unfold wpX_countCheckpoints
  refine br_c (fun w => br_t z (br_f (fun x => y (n3.mpr x)) ?_)) (fun w => br_t rfl (br_t z (br_f (fun x => y (n3.mpr x)) ?_)))
  · exact yp_cs (a := 2) (b := 1) (by omega) (by omega) h01 t01 (yp_zs (a := 2) (by omega) (br_t (n4.mp w) ⟨rfl, R⟩))
  · exact yp_cs (a := 2) (b := 1) (by omega) (by omega) h01 t01 (yp_zs (a := 2) (by omega) (br_f (fun x => w (n4.mpr x)) ⟨rfl, R⟩))
theorem i_vc_mount {k : Nat} {u : SX} {v : SY} (I : i_Rel k u v) (hk : k + 5 ≤ 2561) : wpX_mount (fun r u' => wpY_mount (fun r' v' => r' = r ∧ i_Rel (k + 5) u' v') v) u := by
  have J := i_up I
  obtain ⟨B, T, q, hd, sn, vb, sp, vl, hs, th, nu, rfl, rfl, hB, hT, q1, q2, C, E, N⟩ := I
  obtain ⟨⟨m, hm, em⟩, ⟨m', hm', em'⟩, n3, n4, n5⟩ := N
  have s01 := E.1
  have h01 := E.2.1
  have t01 := E.2.2.1
  unfold wpX_mount wpY_mount
  refine br_c (fun z => xp_cs (a := 1) (b := 0) (by omega) (by omega) s01 (nm_e (br_t z (br_c (fun y => ?_) (fun y => ?_))))) (fun z => br_f z ⟨rfl, J⟩)
  · rw [gg_vb (Or.inr rfl)]
    refine nm_e (nm_e (nm_e ⟨(n3.mpr y).symm, ?_⟩))
    rw [n3.mpr y]
    exact ri_mk (q := 1) hB (by omega) (by omega) (by omega) (rc_m0 C E z y) (re_m0 E z y)
      ⟨⟨m, by omega, em⟩, ⟨m', by omega, em'⟩, n3, n4, n5⟩ rfl (n3.mpr y).symm rfl
  · refine yp_cs (a := 1) (b := 0) (by omega) (by omega) h01 t01 (nm_e ⟨rfl, ?_⟩)
    have e : nu 1 + 1 = nI (m + 1) := by rw [em, nI_1]
    show i_Rel (k + 5) (nI B, 1, nu 1, nu 2, nu 1 + 1, aa_cp hd (96 * 1) (96 * 0) 96, aa_cp sn (4 * 1) (4 * 0) 4, vb) (nu 1 + 1, lN T, nI B, aa_cp sp (96 * 1) (96 * 0) 96, aa_cp vl (96 * 1) (96 * 0) 96, aa_cp hs (6 * 1) (6 * 0) 6, upd th 0 (th 1), upd nu 0 (nu 1))
    rw [e]
    exact ri_mk hB (by omega) (by omega) (by omega) (rr_cp C (by omega)) (re_cs E (by omega) (by omega))
      ⟨⟨m, by omega, em⟩, ⟨m', by omega, em'⟩, n3, n4, n5⟩ (rz_01 (t01 1) y) rfl rfl
theorem rz_b {P : Int32 → Prop} {x y : Int32} (e : x = y) (h0 : y = 0 → P 0) (h1 : ¬ y = 0 → P 1) : (x = 0 → P 0) ∧ (¬ x = 0 → P 1) := by
  subst e
  exact br_c h0 h1
theorem i_vc_info {k : Nat} {u : SX} {v : SY} (I : i_Rel k u v) (hk : k + 5 ≤ 2561) (v1 : Int32) : wpX_info (fun r => wpY_info (fun r' => r' = r ∧ i_Rel (k + 5) u v) v v1) u v1 := by
  have J := i_up I
  obtain ⟨B, T, q, hd, sn, vb, sp, vl, hs, th, nu, rfl, rfl, hB, hT, q1, q2, C, E, N⟩ := I
  obtain ⟨_, _, n3, n4, n5⟩ := N
  obtain ⟨_, _, _, e4, _, _⟩ := E
  have d4 : sn 0 = hs 1 := e4 0 0 0 (by omega) (by omega) (by omega)
  have d5 : sn 1 = hs 2 := e4 0 0 1 (by omega) (by omega) (by omega)
  have d6 : sn 2 = hs 4 := e4 0 1 0 (by omega) (by omega) (by omega)
  have d7 : sn 3 = hs 5 := e4 0 1 1 (by omega) (by omega) (by omega)
  unfold wpX_info wpY_info
  refine br_c (fun a => br_t a ⟨rfl, J⟩) (fun a => br_c (fun b => br_f a (br_t b ⟨rfl, J⟩)) (fun b => ?_))
  refine br_c (fun c => ?_) (fun c0 => br_c (fun c => ?_) (fun c1 => br_c (fun c => ?_) (fun c2 => br_c (fun c => ?_) (fun c3 => br_c (fun c => ?_) (fun c4 => br_c (fun c => ?_) (fun c5 => br_c (fun c => ?_) (fun c6 => br_c (fun c => ?_) (fun c7 => trivial))))))))
  · exact br_c (fun z => br_f a (br_f b (br_t c (br_t z ⟨rfl, J⟩)))) (fun z => br_f a (br_f b (br_t c (br_f z ⟨rfl, J⟩))))
  · unfold wpX_countCheckpoints
    refine br_c (fun z => br_f a (br_f b (br_f c0 (br_t c (br_t (n5 (n3.mp z)) (br_t (n3.mp z) ⟨rfl, J⟩)))))) (fun z => br_c (fun y => br_f a (br_f b (br_f c0 (br_t c (br_t (n4.mp y) (br_f (fun x => z (n3.mpr x)) ⟨rfl, J⟩)))))) (fun y => br_f a (br_f b (br_f c0 (br_t c (br_f (fun x => y (n4.mpr x)) ⟨rfl, J⟩))))))
  · exact br_f a (br_f b (br_f c0 (br_f c1 (br_t c ⟨rfl, J⟩))))
  · exact br_f a (br_f b (br_f c0 (br_f c1 (br_f c2 (br_t c ⟨rfl, J⟩)))))
  · subst c
    refine ⟨vp_in_iff.mpr (by decide), ?_⟩
    show ((sn 0 = 0 → _) ∧ (¬ sn 0 = 0 → _))
    exact br_c (fun z => br_f a (br_f b (br_f c0 (br_f c1 (br_f c2 (br_f c3 (br_t rfl (br_t (d4.symm.trans z) ⟨rfl, J⟩)))))))) (fun z => br_f a (br_f b (br_f c0 (br_f c1 (br_f c2 (br_f c3 (br_t rfl (br_f (fun x => z (d4.trans x)) ⟨rfl, J⟩))))))))
  · subst c
    refine ⟨vp_in_iff.mpr (by decide), ?_⟩
    show ((sn 1 = 0 → _) ∧ (¬ sn 1 = 0 → _))
    exact br_c (fun z => br_f a (br_f b (br_f c0 (br_f c1 (br_f c2 (br_f c3 (br_f c4 (br_t rfl (br_t (d5.symm.trans z) ⟨rfl, J⟩))))))))) (fun z => br_f a (br_f b (br_f c0 (br_f c1 (br_f c2 (br_f c3 (br_f c4 (br_t rfl (br_f (fun x => z (d5.trans x)) ⟨rfl, J⟩)))))))))
  · subst c
    refine ⟨vp_in_iff.mpr (by decide), ?_⟩
    show ((sn 2 = 0 → _) ∧ (¬ sn 2 = 0 → _))
    exact br_c (fun z => br_f a (br_f b (br_f c0 (br_f c1 (br_f c2 (br_f c3 (br_f c4 (br_f c5 (br_t rfl (br_t (d6.symm.trans z) ⟨rfl, J⟩)))))))))) (fun z => br_f a (br_f b (br_f c0 (br_f c1 (br_f c2 (br_f c3 (br_f c4 (br_f c5 (br_t rfl (br_f (fun x => z (d6.trans x)) ⟨rfl, J⟩))))))))))
  · subst c
    refine ⟨vp_in_iff.mpr (by decide), ?_⟩
    show ((sn 3 = 0 → _) ∧ (¬ sn 3 = 0 → _))
    exact br_c (fun z => br_f a (br_f b (br_f c0 (br_f c1 (br_f c2 (br_f c3 (br_f c4 (br_f c5 (br_f c6 (br_t rfl (br_t (d7.symm.trans z) ⟨rfl, J⟩))))))))))) (fun z => br_f a (br_f b (br_f c0 (br_f c1 (br_f c2 (br_f c3 (br_f c4 (br_f c5 (br_f c6 (br_t rfl (br_f (fun x => z (d7.trans x)) ⟨rfl, J⟩)))))))))))
end VB
