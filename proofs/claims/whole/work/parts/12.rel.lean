section RL
/-! reading a copied and a cleared part -/
theorem aa_cpI {α : Type} (a : Nat → α) {s t c i : Nat} (h : i < c) : aa_cp a s t c (t + i) = a (s + i) := by
  unfold aa_cp
  rw [if_pos (by omega)]
  have e : s + (t + i - t) = s + i := by omega
  rw [e]
theorem aa_cpO {α : Type} (a : Nat → α) {s t c j : Nat} (h : j < t ∨ t + c ≤ j) : aa_cp a s t c j = a j := by
  unfold aa_cp
  rw [if_neg (by omega)]
theorem aa_clI {α : Type} (z : α) (a : Nat → α) {s c i : Nat} (h : i < c) : aa_cl z a s c (s + i) = z := by
  unfold aa_cl
  rw [if_pos (by omega)]
theorem aa_clO {α : Type} (z : α) (a : Nat → α) {s c j : Nat} (h : j < s ∨ s + c ≤ j) : aa_cl z a s c j = a j := by
  unfold aa_cl
  rw [if_neg (by omega)]
theorem aa_swO {α : Type} (a : Nat → α) {x y c j : Nat} (h : j < x ∨ x + c ≤ j) (h2 : j < y ∨ y + c ≤ j) : aa_sw a x y c j = a j := by
  unfold aa_sw
  rw [if_neg (by omega), if_neg (by omega)]
theorem aa_cp01 {a : Nat → Int32} {s t c : Nat} (h : ∀ j, a j = 0 ∨ a j = 1) : ∀ j, aa_cp a s t c j = 0 ∨ aa_cp a s t c j = 1 := by
  intro j; unfold aa_cp; split
  · exact h _
  · exact h _
theorem aa_cl01 {a : Nat → Int32} {s c : Nat} (h : ∀ j, a j = 0 ∨ a j = 1) : ∀ j, aa_cl 0 a s c j = 0 ∨ aa_cl 0 a s c j = 1 := by
  intro j; unfold aa_cl; split
  · exact Or.inl rfl
  · exact h _
theorem aa_up01 {a : Nat → Int32} {k : Nat} {x : Int32} (h : ∀ j, a j = 0 ∨ a j = 1) (hx : x = 0 ∨ x = 1) : ∀ j, upd a k x j = 0 ∨ upd a k x j = 1 := by
  intro j; unfold upd; split
  · exact hx
  · exact h _
/-! what the two sides keep of snapshots and of states that are there -/
def rr_E (hd sn hs th : Nat → Int32) : Prop :=
  (∀ j, sn j = 0 ∨ sn j = 1) ∧ (∀ j, hs j = 0 ∨ hs j = 1) ∧ (∀ j, th j = 0 ∨ th j = 1) ∧
  (∀ s v t, s < 3 → v < 2 → t < 2 → sn (4 * s + (2 * v + t)) = hs (6 * s + (3 * v + (t + 1)))) ∧
  (∀ s v, s < 3 → v < 2 → hs (6 * s + 3 * v) = th s) ∧
  (∀ s, s < 3 → th s = 0 → (∀ j, j < 96 → hd (96 * s + j) = 0) ∧ (∀ j, j < 4 → sn (4 * s + j) = 0))
def rr_N (k : Nat) (th nu : Nat → Int32) : Prop :=
  (∃ m, m ≤ k ∧ nu 1 = nI m) ∧ (∃ m, m ≤ k ∧ nu 2 = nI m) ∧ (nu 1 = 0 ↔ th 1 = 0) ∧ (nu 2 = 0 ↔ th 2 = 0) ∧ (th 1 = 0 → th 2 = 0)
theorem re_hd {hd hd' sn hs th : Nat → Int32} (E : rr_E hd sn hs th) (u : ¬ th 0 = 0) (h : ∀ j, 96 ≤ j → hd' j = hd j) : rr_E hd' sn hs th := by
  obtain ⟨e1, e2, e3, e4, e5, e6⟩ := E
  refine ⟨e1, e2, e3, e4, e5, fun s hs0 z => ?_⟩
  have s0 : ¬ s = 0 := fun g => u (by rw [g] at z; exact z)
  obtain ⟨a, b⟩ := e6 s hs0 z
  exact ⟨fun j hj => by rw [h _ (by omega)]; exact a j hj, b⟩
theorem re_sn {hd sn hs th : Nat → Int32} (E : rr_E hd sn hs th) (u : ¬ th 0 = 0) {v t : Nat} (hv : v < 2) (h1 : 1 ≤ t) (ht : t < 3) {x : Int32} (hx : x = 0 ∨ x = 1) :
    rr_E hd (upd sn (2 * v + (t - 1)) x) (upd hs (3 * v + t) x) th := by
  obtain ⟨e1, e2, e3, e4, e5, e6⟩ := E
  refine ⟨aa_up01 e1 hx, aa_up01 e2 hx, e3, fun s v' t' hs0 hv' ht' => ?_, fun s v' hs0 hv' => ?_, fun s hs0 z => ?_⟩
  · by_cases g : 4 * s + (2 * v' + t') = 2 * v + (t - 1)
    · rw [g, pk_us, show 6 * s + (3 * v' + (t' + 1)) = 3 * v + t from by omega, pk_us]
    · rw [pk_un g, pk_un (by omega)]
      exact e4 s v' t' hs0 hv' ht'
  · rw [pk_un (by omega)]
    exact e5 s v' hs0 hv'
  · have s0 : ¬ s = 0 := fun g => u (by rw [g] at z; exact z)
    obtain ⟨a, b⟩ := e6 s hs0 z
    exact ⟨a, fun j hj => by rw [pk_un (by omega)]; exact b j hj⟩
theorem re_cs {hd sn hs th : Nat → Int32} (E : rr_E hd sn hs th) {a b : Nat} (ha : a < 3) (hb : b < 3) :
    rr_E (aa_cp hd (96 * a) (96 * b) 96) (aa_cp sn (4 * a) (4 * b) 4) (aa_cp hs (6 * a) (6 * b) 6) (upd th b (th a)) := by
  obtain ⟨e1, e2, e3, e4, e5, e6⟩ := E
  refine ⟨aa_cp01 e1, aa_cp01 e2, aa_up01 e3 (e3 a), fun s v t hs0 hv ht => ?_, fun s v hs0 hv => ?_, fun s hs0 z => ?_⟩
  · by_cases g : s = b
    · rw [g, aa_cpI sn (by omega), aa_cpI hs (by omega)]
      exact e4 a v t ha hv ht
    · rw [aa_cpO sn (by omega), aa_cpO hs (by omega)]
      exact e4 s v t hs0 hv ht
  · by_cases g : s = b
    · rw [g, aa_cpI hs (by omega), pk_us]
      exact e5 a v ha hv
    · rw [aa_cpO hs (by omega), pk_un g]
      exact e5 s v hs0 hv
  · by_cases g : s = b
    · rw [g, pk_us] at z
      obtain ⟨p, q⟩ := e6 a ha z
      rw [g]
      exact ⟨fun j hj => by rw [aa_cpI hd hj]; exact p j hj, fun j hj => by rw [aa_cpI sn hj]; exact q j hj⟩
    · rw [pk_un g] at z
      obtain ⟨p, q⟩ := e6 s hs0 z
      exact ⟨fun j hj => by rw [aa_cpO hd (by omega)]; exact p j hj, fun j hj => by rw [aa_cpO sn (by omega)]; exact q j hj⟩
theorem re_zs {hd sn hs th : Nat → Int32} (E : rr_E hd sn hs th) {b : Nat} (hb : b < 3) :
    rr_E (aa_cl 0 hd (96 * b) 96) (aa_cl 0 sn (4 * b) 4) (aa_cl 0 hs (6 * b) 6) (upd th b 0) := by
  obtain ⟨e1, e2, e3, e4, e5, e6⟩ := E
  refine ⟨aa_cl01 e1, aa_cl01 e2, aa_up01 e3 (Or.inl rfl), fun s v t hs0 hv ht => ?_, fun s v hs0 hv => ?_, fun s hs0 z => ?_⟩
  · by_cases g : s = b
    · rw [g, aa_clI 0 sn (by omega), aa_clI 0 hs (by omega)]
    · rw [aa_clO 0 sn (by omega), aa_clO 0 hs (by omega)]
      exact e4 s v t hs0 hv ht
  · by_cases g : s = b
    · rw [g, aa_clI 0 hs (by omega), pk_us]
    · rw [aa_clO 0 hs (by omega), pk_un g]
      exact e5 s v hs0 hv
  · by_cases g : s = b
    · rw [g]
      exact ⟨fun j hj => aa_clI 0 hd hj, fun j hj => aa_clI 0 sn hj⟩
    · rw [pk_un g] at z
      obtain ⟨p, q⟩ := e6 s hs0 z
      exact ⟨fun j hj => by rw [aa_clO 0 hd (by omega)]; exact p j hj, fun j hj => by rw [aa_clO 0 sn (by omega)]; exact q j hj⟩
/-- the empty state mounted: nothing there, and no checkpoint -/
theorem re_m0 {hd sn hs th : Nat → Int32} (E : rr_E hd sn hs th) (z0 : th 0 = 0) (z1 : th 1 = 0) :
    rr_E (aa_cp hd (96 * 1) (96 * 0) 96) (aa_cp sn (4 * 1) (4 * 0) 4) (upd (upd hs 0 1) 3 1) (upd th 0 1) := by
  obtain ⟨e1, e2, e3, e4, e5, e6⟩ := E
  refine ⟨aa_cp01 e1, aa_up01 (aa_up01 e2 (Or.inr rfl)) (Or.inr rfl), aa_up01 e3 (Or.inr rfl), fun s v t hs0 hv ht => ?_, fun s v hs0 hv => ?_, fun s hs0 z => ?_⟩
  · rw [pk_un (by omega), pk_un (by omega)]
    by_cases g : s = 0
    · subst g
      rw [aa_cpI sn (by omega), (e6 1 (by omega) z1).2 _ (by omega), ← e4 0 v t (by omega) hv ht, (e6 0 (by omega) z0).2 _ (by omega)]
    · rw [aa_cpO sn (by omega)]
      exact e4 s v t hs0 hv ht
  · by_cases g : s = 0
    · subst g
      rw [pk_us]
      by_cases g2 : v = 0
      · subst g2; rw [pk_un (by omega), pk_us]
      · rw [show 6 * 0 + 3 * v = 3 from by omega, pk_us]
    · rw [pk_un (by omega), pk_un (by omega), pk_un g]
      exact e5 s v hs0 hv
  · by_cases g : s = 0
    · rw [g, pk_us] at z; exact absurd z gg_i1
    · rw [pk_un g] at z
      obtain ⟨p, q⟩ := e6 s hs0 z
      exact ⟨fun j hj => by rw [aa_cpO hd (by omega)]; exact p j hj, fun j hj => by rw [aa_cpO sn (by omega)]; exact q j hj⟩
theorem rc_m0 {B T : Nat} {hd sn hs th W V : Nat → Int32} {S : Nat → Int64} (C : rr_C B T hd S W V) (E : rr_E hd sn hs th) (z0 : th 0 = 0) (z1 : th 1 = 0) :
    rr_C B T (aa_cp hd (96 * 1) (96 * 0) 96) S W V := by
  refine rr_map C (fun j hj => ?_)
  by_cases g : j < 96
  · refine Or.inl ⟨?_, ?_⟩
    · have e : aa_cp hd (96 * 1) (96 * 0) 96 (96 * 0 + j) = hd (96 * 1 + j) := aa_cpI hd g
      rw [show 96 * 0 + j = j from by omega] at e
      rw [e]
      exact (E.2.2.2.2.2 1 (by omega) z1).1 j g
    · have e := (E.2.2.2.2.2 0 (by omega) z0).1 j g
      rw [show 96 * 0 + j = j from by omega] at e
      exact (C.2.2.1 j hj).mpr e
  · exact Or.inr ⟨j, hj, aa_cpO hd (by omega), rfl, rfl⟩
theorem re_has {hd sn hs th : Nat → Int32} (E : rr_E hd sn hs th) (u : ¬ th 0 = 0) {v t : Nat} (hv : v < 2) (ht : t < 3) : hs (3 * v + t) = 0 ↔ (¬ t = 0 ∧ sn (2 * v + (t - 1)) = 0) := by
  obtain ⟨e1, e2, e3, e4, e5, e6⟩ := E
  by_cases g : t = 0
  · subst g
    have e := e5 0 v (by omega) hv
    rw [show 6 * 0 + 3 * v = 3 * v + 0 from by omega] at e
    rw [e]
    exact ⟨fun z => absurd z u, fun z => absurd rfl z.1⟩
  · have e := e4 0 v (t - 1) (by omega) hv (by omega)
    rw [show 4 * 0 + (2 * v + (t - 1)) = 2 * v + (t - 1) from by omega, show 6 * 0 + (3 * v + (t - 1 + 1)) = 3 * v + t from by omega] at e
    rw [← e]
    exact ⟨fun z => ⟨g, z⟩, fun z => z.2⟩
theorem rc_b {B T : Nat} {H : Nat → Int32} {S : Nat → Int64} {W V : Nat → Int32} (C : rr_C B T H S W V) {M : Nat} (hM : B < M) : ∀ j, j < 288 → ∃ b, b < M ∧ H j = nI b := by
  intro j hj
  obtain ⟨b, hb, e⟩ := C.1 j hj
  exact ⟨b, by omega, e⟩
theorem rc_cnt {B T : Nat} {H : Nat → Int32} {S : Nat → Int64} {W V : Nat → Int32} (C : rr_C B T H S W V) {s c : Nat} (hs : s + c ≤ 288) :
    nI (cc_n (fun j => ¬ S (s + j) = 0) c) = nI (cc_n (fun j => ¬ H (s + j) = 0) c) := by
  refine congrArg nI (cc_ext c (fun j hj => ?_))
  rw [C.2.2.1 (s + j) (by omega)]
theorem rc_use {B T : Nat} {H : Nat → Int32} {S : Nat → Int64} {W V : Nat → Int32} (C : rr_C B T H S W V) (hB : B ≤ 24) :
    nI (cc_n (rr_fst S 0 (fun _ => True)) 288) = nI (cc_n (fun v => v ≠ 0 ∧ rr_has H 0 288 v ∧ True) 25) :=
  congrArg nI (rr_count (Q := fun _ => True) C (by omega) (by omega) (by omega) (fun _ _ _ _ _ _ => Iff.rfl))
/-! the relation -/
/-- the same blocks, numbers, marks: which places share a block, and the block's value (rr_C); snapshots and states that are there (rr_E); the checkpoints' numbers (rr_N) -/
def i_Rel (k : Nat) (u : SX) (v : SY) : Prop :=
  ∃ (B T q : Nat) (hd sn vb : Nat → Int32) (sp : Nat → Int64) (vl hs th nu : Nat → Int32),
    u = (nI B, th 0, nu 1, nu 2, nI q, hd, sn, vb) ∧ v = (nI q, lN T, nI B, sp, vl, hs, th, nu) ∧
    B ≤ 24 ∧ T ≤ k ∧ 1 ≤ q ∧ q ≤ k ∧ rr_C B T hd sp vb vl ∧ rr_E hd sn hs th ∧ rr_N k th nu
theorem rn_k {k k' : Nat} {th nu : Nat → Int32} (h : rr_N k th nu) (hk : k ≤ k') : rr_N k' th nu := by
  obtain ⟨⟨m, hm, e⟩, ⟨m', hm', e'⟩, n3, n4, n5⟩ := h
  exact ⟨⟨m, by omega, e⟩, ⟨m', by omega, e'⟩, n3, n4, n5⟩
theorem i_up {k : Nat} {u : SX} {v : SY} (h : i_Rel k u v) : i_Rel (k + 5) u v := by
  obtain ⟨B, T, q, hd, sn, vb, sp, vl, hs, th, nu, e1, e2, hB, hT, q1, q2, C, E, N⟩ := h
  exact ⟨B, T, q, hd, sn, vb, sp, vl, hs, th, nu, e1, e2, hB, by omega, q1, by omega, C, E, rn_k N (by omega)⟩
theorem ri_mk {k B T q : Nat} {up nn pn : Int32} {hd sn vb : Nat → Int32} {sp : Nat → Int64} {vl hs th nu : Nat → Int32} (hB : B ≤ 24) (hT : T ≤ k) (q1 : 1 ≤ q) (q2 : q ≤ k)
    (C : rr_C B T hd sp vb vl) (E : rr_E hd sn hs th) (N : rr_N k th nu) (e1 : up = th 0) (e2 : nn = nu 1) (e3 : pn = nu 2) :
    i_Rel k (nI B, up, nn, pn, nI q, hd, sn, vb) (nI q, lN T, nI B, sp, vl, hs, th, nu) := by
  subst e1 e2 e3
  exact ⟨B, T, q, hd, sn, vb, sp, vl, hs, th, nu, rfl, rfl, hB, hT, q1, q2, C, E, N⟩
end RL
