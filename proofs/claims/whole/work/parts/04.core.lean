section RR
/-! the core of the relation: which places hold the same block, and its value -/
def rr_C (B T : Nat) (H : Nat → Int32) (S : Nat → Int64) (W V : Nat → Int32) : Prop :=
  (∀ j, j < 288 → ∃ b, b ≤ B ∧ H j = nI b) ∧ (∀ j, j < 288 → ∃ m, m ≤ T ∧ S j = lN m) ∧ (∀ j, j < 288 → (S j = 0 ↔ H j = 0)) ∧ (∀ i j, i < 288 → j < 288 → (S i = S j ↔ H i = H j)) ∧ (∀ j, j < 288 → ¬ H j = 0 → V j = W (H j).toNatClampNeg)
theorem rr_map {B T : Nat} {H H' : Nat → Int32} {S S' : Nat → Int64} {W V V' : Nat → Int32} (C : rr_C B T H S W V)
    (h : ∀ j, j < 288 → (H' j = 0 ∧ S' j = 0) ∨ ∃ i, i < 288 ∧ H' j = H i ∧ S' j = S i ∧ V' j = V i) : rr_C B T H' S' W V' := by
  obtain ⟨c1, c2, c3, c4, c5⟩ := C
  refine ⟨fun j hj => ?_, fun j hj => ?_, fun j hj => ?_, fun i j hi hj => ?_, fun j hj => ?_⟩
  · rcases h j hj with ⟨a, b⟩ | ⟨i, hi, a, b, c⟩
    · exact ⟨0, Nat.zero_le _, a⟩
    · rw [a]; exact c1 i hi
  · rcases h j hj with ⟨a, b⟩ | ⟨i, hi, a, b, c⟩
    · exact ⟨0, Nat.zero_le _, b⟩
    · rw [b]; exact c2 i hi
  · rcases h j hj with ⟨a, b⟩ | ⟨i, hi, a, b, c⟩
    · rw [a, b]; exact ⟨fun _ => rfl, fun _ => rfl⟩
    · rw [a, b]; exact c3 i hi
  · rcases h i hi with ⟨a, b⟩ | ⟨i', hi', a, b, c⟩
    · rcases h j hj with ⟨a', b'⟩ | ⟨j', hj', a', b', c'⟩
      · rw [a, b, a', b']; exact ⟨fun _ => rfl, fun _ => rfl⟩
      · rw [a, b, a', b']
        exact ⟨fun z => ((c3 j' hj').mp z.symm).symm, fun z => ((c3 j' hj').mpr z.symm).symm⟩
    · rcases h j hj with ⟨a', b'⟩ | ⟨j', hj', a', b', c'⟩
      · rw [a, b, a', b']; exact c3 i' hi'
      · rw [a, b, a', b']; exact c4 i' j' hi' hj'
  · intro g
    rcases h j hj with ⟨a, b⟩ | ⟨i, hi, a, b, c⟩
    · exact absurd a g
    · rw [c, a]; exact c5 i hi (by rw [← a]; exact g)
theorem rr_T {B T T' : Nat} {H : Nat → Int32} {S : Nat → Int64} {W V : Nat → Int32} (C : rr_C B T H S W V) (h : T ≤ T') : rr_C B T' H S W V := by
  obtain ⟨c1, c2, c3, c4, c5⟩ := C
  exact ⟨c1, fun j hj => (c2 j hj).elim fun m hm => ⟨m, Nat.le_trans hm.1 h, hm.2⟩, c3, c4, c5⟩
/-- copies, cleared parts, exchanges keep it -/
theorem rr_cp {B T : Nat} {H : Nat → Int32} {S : Nat → Int64} {W V : Nat → Int32} (C : rr_C B T H S W V) {s t c : Nat} (hs : s + c ≤ 288) :
    rr_C B T (aa_cp H s t c) (aa_cp S s t c) W (aa_cp V s t c) := by
  refine rr_map C (fun j hj => Or.inr ?_)
  unfold aa_cp
  by_cases g : t ≤ j ∧ j < t + c
  · exact ⟨s + (j - t), by omega, if_pos g, if_pos g, if_pos g⟩
  · exact ⟨j, hj, if_neg g, if_neg g, if_neg g⟩
theorem rr_cl {B T : Nat} {H : Nat → Int32} {S : Nat → Int64} {W V : Nat → Int32} (C : rr_C B T H S W V) {s c : Nat} :
    rr_C B T (aa_cl 0 H s c) (aa_cl 0 S s c) W V := by
  refine rr_map C (fun j hj => ?_)
  unfold aa_cl
  by_cases g : s ≤ j ∧ j < s + c
  · exact Or.inl ⟨if_pos g, if_pos g⟩
  · exact Or.inr ⟨j, hj, if_neg g, if_neg g, rfl⟩
theorem rr_sw {B T : Nat} {H : Nat → Int32} {S : Nat → Int64} {W V : Nat → Int32} (C : rr_C B T H S W V) {x y c : Nat} (hx : x + c ≤ 288) (hy : y + c ≤ 288) :
    rr_C B T (aa_sw H x y c) (aa_sw S x y c) W (aa_sw V x y c) := by
  refine rr_map C (fun j hj => Or.inr ?_)
  unfold aa_sw
  by_cases g : x ≤ j ∧ j < x + c
  · exact ⟨y + (j - x), by omega, if_pos g, if_pos g, if_pos g⟩
  · by_cases g2 : y ≤ j ∧ j < y + c
    · exact ⟨x + (j - y), by omega, by rw [if_neg g, if_pos g2], by rw [if_neg g, if_pos g2], by rw [if_neg g, if_pos g2]⟩
    · exact ⟨j, hj, by rw [if_neg g, if_neg g2], by rw [if_neg g, if_neg g2], by rw [if_neg g, if_neg g2]⟩
/-- X's count of a set of places: the block numbers from 1 to 24 that one of them holds -/
def rr_has (H : Nat → Int32) (x c : Nat) (v : Nat) : Prop := ∃ i, i < c ∧ H (x + i) = nI v
/-- Y's count: the places whose stamp is not 0, not held by one before it among the c places from x, and with P -/
def rr_fst (S : Nat → Int64) (x : Nat) (P : Int64 → Prop) (i : Nat) : Prop := ¬ S (x + i) = 0 ∧ ¬ (∃ j, j < i ∧ S (x + j) = S (x + i)) ∧ P (S (x + i))
theorem rr_count {B T : Nat} {H : Nat → Int32} {S : Nat → Int64} {W V : Nat → Int32} (C : rr_C B T H S W V) {x c M : Nat} (hB : B < M) (hM : M ≤ 32) (hx : x + c ≤ 288)
    {P : Int64 → Prop} {Q : Nat → Prop} (hP : ∀ i v, i < c → H (x + i) = nI v → v < 32 → ¬ v = 0 → (P (S (x + i)) ↔ Q v)) :
    cc_n (rr_fst S x P) c = cc_n (fun v => v ≠ 0 ∧ rr_has H x c v ∧ Q v) M := by
  obtain ⟨c1, c2, c3, c4, c5⟩ := C
  have key : ∀ i, i < c → H (x + i) = nI (H (x + i)).toNatClampNeg ∧ (H (x + i)).toNatClampNeg ≤ B := by
    intro i hi
    obtain ⟨b, hb, e⟩ := c1 (x + i) (by omega)
    rw [e, nI_clamp (by omega)]
    exact ⟨rfl, hb⟩
  have e := cc_first (fun i => (H (x + i)).toNatClampNeg) Q M c (fun i hi => by have := (key i hi).2; show (H (x + i)).toNatClampNeg < M; omega)
  have e2 : cc_n (rr_fst S x P) c = cc_n (cc_F (fun i => (H (x + i)).toNatClampNeg) Q) c := by
    refine cc_ext c (fun i hi => ?_)
    obtain ⟨k1, k2⟩ := key i hi
    have z : H (x + i) = 0 ↔ (H (x + i)).toNatClampNeg = 0 := by
      constructor
      · intro g; rw [g]; rfl
      · intro g; rw [k1, g]; rfl
    have q : ∀ j, j < i → (S (x + j) = S (x + i) ↔ (H (x + j)).toNatClampNeg = (H (x + i)).toNatClampNeg) := by
      intro j hj
      rw [c4 _ _ (by omega) (by omega)]
      constructor
      · intro g; rw [g]
      · intro g; rw [k1, (key j (by omega)).1, g]
    constructor
    · rintro ⟨a1, a2, a3⟩
      have nz : ¬ (H (x + i)).toNatClampNeg = 0 := fun g => a1 ((c3 _ (by omega)).mpr (z.mpr g))
      exact ⟨nz, fun j hj g => a2 ⟨j, hj, (q j hj).mpr g⟩, (hP i _ hi k1 (by omega) nz).mp a3⟩
    · rintro ⟨a1, a2, a3⟩
      exact ⟨fun g => a1 (z.mp ((c3 _ (by omega)).mp g)), fun ⟨j, hj, g⟩ => a2 j hj ((q j hj).mp g), (hP i _ hi k1 (by omega) a1).mpr a3⟩
  rw [e2, e]
  refine cc_ext M (fun v hv => ⟨?_, ?_⟩)
  · rintro ⟨v0, ⟨i, hi, g⟩, hq⟩
    exact ⟨v0, ⟨i, hi, by rw [(key i hi).1]; exact congrArg nI g⟩, hq⟩
  · rintro ⟨v0, ⟨i, hi, g⟩, hq⟩
    refine ⟨v0, ⟨i, hi, ?_⟩, hq⟩
    show (H (x + i)).toNatClampNeg = v
    rw [g, nI_clamp (by omega)]
/-! write: a place gets a block that nothing else holds -/
def rr_kept (H : Nat → Int32) (t v : Nat) : Prop := v ≠ 0 ∧ ∃ i, i < 288 ∧ ¬ i = t ∧ H i = nI v
theorem rr_put {B B' T : Nat} {H : Nat → Int32} {S : Nat → Int64} {W V : Nat → Int32} (C : rr_C B T H S W V) (hB : B ≤ B') (hB' : B' < 32) {t b : Nat} (b0 : ¬ b = 0) (hb : b ≤ B')
    (hf : ¬ rr_kept H t b) (hT : T + 1 < 2 ^ 31) (x : Int32) : rr_C B' (T + 1) (upd H t (nI b)) (vp_updL S t (lN (T + 1))) (upd W b x) (upd V t x) := by
  obtain ⟨c1, c2, c3, c4, c5⟩ := C
  have n1 : ∀ j, j < 288 → ¬ lN (T + 1) = S j := by
    intro j hj g
    obtain ⟨m, hm, e⟩ := c2 j hj
    rw [e, lN_eq hT (by omega)] at g
    omega
  have n2 : ∀ j, j < 288 → ¬ j = t → ¬ nI b = H j := fun j hj g e => hf ⟨b0, j, hj, g, e.symm⟩
  refine ⟨fun j hj => ?_, fun j hj => ?_, fun j hj => ?_, fun i j hi hj => ?_, fun j hj => ?_⟩
  · by_cases g : j = t
    · rw [g, pk_us]; exact ⟨b, hb, rfl⟩
    · rw [pk_un g]
      obtain ⟨d, hd, e⟩ := c1 j hj
      exact ⟨d, by omega, e⟩
  · by_cases g : j = t
    · rw [g, pk_uLs]; exact ⟨T + 1, by omega, rfl⟩
    · rw [pk_uLn g]
      obtain ⟨d, hd, e⟩ := c2 j hj
      exact ⟨d, by omega, e⟩
  · by_cases g : j = t
    · rw [g, pk_us, pk_uLs]
      have e1 : ¬ lN (T + 1) = 0 := by
        intro z
        have z2 : lN (T + 1) = lN 0 := z
        rw [lN_eq hT (by omega)] at z2
        omega
      have e2 : ¬ nI b = 0 := nI_ne0 (by omega) (by omega)
      exact ⟨fun z => absurd z e1, fun z => absurd z e2⟩
    · rw [pk_un g, pk_uLn g]; exact c3 j hj
  · by_cases g : i = t
    · by_cases g2 : j = t
      · rw [g, g2]; exact ⟨fun _ => rfl, fun _ => rfl⟩
      · rw [g, pk_us, pk_uLs, pk_un g2, pk_uLn g2]
        exact ⟨fun z => absurd z (n1 j hj), fun z => absurd z (n2 j hj g2)⟩
    · by_cases g2 : j = t
      · rw [g2, pk_us, pk_uLs, pk_un g, pk_uLn g]
        exact ⟨fun z => absurd z.symm (n1 i hi), fun z => absurd z.symm (n2 i hi g)⟩
      · rw [pk_un g, pk_un g2, pk_uLn g, pk_uLn g2]; exact c4 i j hi hj
  · by_cases g : j = t
    · rw [g, pk_us, pk_us, nI_clamp (by omega), pk_us]; intro _; rfl
    · rw [pk_un g, pk_un g]
      intro hz
      obtain ⟨d, hd, e⟩ := c1 j hj
      have e2 : ¬ (H j).toNatClampNeg = b := by
        intro z
        rw [e, nI_clamp (by omega)] at z
        exact n2 j hj g (by rw [e, z])
      rw [pk_un e2]
      exact c5 j hj hz
theorem rr_new {B B' T : Nat} {H : Nat → Int32} {S : Nat → Int64} {W V : Nat → Int32} (C : rr_C B T H S W V) (hB : B ≤ B') {t b M : Nat} (ht : t < 288) (b0 : ¬ b = 0) (hb : b ≤ B')
    (hf : ¬ rr_kept H t b) (hT : T + 1 < 2 ^ 31) (hM : B' < M) (hM2 : M ≤ 32) : cc_n (rr_fst (vp_updL S t (lN (T + 1))) 0 (fun _ => True)) 288 = cc_n (rr_kept H t) M + 1 := by
  have D := rr_put C hB (by omega) b0 hb hf hT 0
  rw [rr_count (Q := fun _ => True) D hM hM2 (by omega) (fun _ _ _ _ _ _ => Iff.rfl)]
  refine cc_add hf M (by omega) (fun v hv => ⟨?_, ?_⟩)
  · rintro ⟨v0, ⟨i, hi, e⟩, _⟩
    rw [Nat.zero_add] at e
    by_cases g : i = t
    · rw [g, pk_us, nI_eq (by omega) (by omega)] at e
      exact Or.inr e.symm
    · rw [pk_un g] at e
      exact Or.inl ⟨v0, i, hi, g, e⟩
  · rintro (⟨v0, i, hi, g, e⟩ | g)
    · exact ⟨v0, ⟨i, hi, by rw [Nat.zero_add, pk_un g]; exact e⟩, trivial⟩
    · rw [g]; exact ⟨b0, ⟨t, ht, by rw [Nat.zero_add, pk_us]⟩, trivial⟩
/-- a free block: the count after it is at most B -/
theorem rr_free {B T : Nat} {H : Nat → Int32} {S : Nat → Int64} {W V : Nat → Int32} (C : rr_C B T H S W V) (hB : B ≤ 24) {t b : Nat} (b0 : ¬ b = 0) (hb : b ≤ B)
    (hf : ¬ rr_kept H t b) : cc_n (rr_kept H t) 25 + 1 ≤ B := by
  have e : cc_n (fun v => rr_kept H t v ∨ v = b) 25 = cc_n (rr_kept H t) 25 + 1 := cc_add hf 25 (by omega) (fun v _ => Iff.rfl)
  have e2 : cc_n (fun v => rr_kept H t v ∨ v = b) 25 ≤ cc_n (fun v => v ≠ 0 ∧ v ≤ B) 25 := by
    refine cc_mono 25 (fun v hv => ?_)
    rintro (⟨v0, i, hi, g, e⟩ | g)
    · obtain ⟨d, hd, e3⟩ := C.1 i hi
      rw [e3, nI_eq (by omega) (by omega)] at e
      exact ⟨v0, by omega⟩
    · exact ⟨by omega, by omega⟩
  rw [cc_rg B 24] at e2
  split at e2 <;> omega
/-- no free block: B of them are kept -/
theorem rr_full {B T : Nat} {H : Nat → Int32} {S : Nat → Int64} {W V : Nat → Int32} (C : rr_C B T H S W V) (hB : B ≤ 24) {t : Nat}
    (hf : ∀ v, ¬ v = 0 → v ≤ B → rr_kept H t v) : cc_n (rr_kept H t) 26 = B := by
  have e : cc_n (rr_kept H t) 26 = cc_n (fun v => v ≠ 0 ∧ v ≤ B) 26 := by
    refine cc_ext 26 (fun v hv => ⟨?_, fun z => hf v z.1 z.2⟩)
    rintro ⟨v0, i, hi, g, e⟩
    obtain ⟨d, hd, e3⟩ := C.1 i hi
    rw [e3, nI_eq (by omega) (by omega)] at e
    exact ⟨v0, by omega⟩
  rw [e, cc_rg B 25]
  split <;> omega
end RR
