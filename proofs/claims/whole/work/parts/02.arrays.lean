section AA
/-! arrays: a part copied, a part cleared, two parts exchanged -/
def aa_cp {α : Type} (a : Nat → α) (s t c : Nat) : Nat → α := fun j => if t ≤ j ∧ j < t + c then a (s + (j - t)) else a j
def aa_cl {α : Type} (z : α) (a : Nat → α) (s c : Nat) : Nat → α := fun j => if s ≤ j ∧ j < s + c then z else a j
def aa_sw {α : Type} (a : Nat → α) (x y c : Nat) : Nat → α := fun j => if x ≤ j ∧ j < x + c then a (y + (j - x)) else if y ≤ j ∧ j < y + c then a (x + (j - y)) else a j
def aa_u {α : Type} (f : Nat → α) (k : Nat) (x : α) : Nat → α := fun j => if j = k then x else f j
theorem aa_uI (f : Nat → Int32) (k : Nat) (x : Int32) : upd f k x = aa_u f k x := rfl
theorem aa_uL (f : Nat → Int64) (k : Nat) (x : Int64) : vp_updL f k x = aa_u f k x := rfl
/-- two parts that don't overlap, or are the same -/
def aa_ok (s t c : Nat) : Prop := s = t ∨ s + c ≤ t ∨ t + c ≤ s
theorem aa_cp0 {α : Type} (a : Nat → α) (s t : Nat) : aa_cp a s t 0 = a := by
  funext j; unfold aa_cp; rw [if_neg (by omega)]
theorem aa_cl0 {α : Type} (z : α) (a : Nat → α) (s : Nat) : aa_cl z a s 0 = a := by
  funext j; unfold aa_cl; rw [if_neg (by omega)]
theorem aa_sw0 {α : Type} (a : Nat → α) (x y : Nat) : aa_sw a x y 0 = a := by
  funext j; unfold aa_sw; rw [if_neg (by omega), if_neg (by omega)]
theorem aa_cpR {α : Type} (a : Nat → α) {s t c i : Nat} (h : aa_ok s t c) (hi : i < c) : aa_cp a s t i (s + i) = a (s + i) := by
  unfold aa_cp
  by_cases g : t ≤ s + i ∧ s + i < t + i
  · rw [if_pos g]
    unfold aa_ok at h
    have e : s + (s + i - t) = s + i := by omega
    rw [e]
  · rw [if_neg g]
theorem aa_cpS {α : Type} (a : Nat → α) {s t c i : Nat} (h : aa_ok s t c) (hi : i < c) : aa_u (aa_cp a s t i) (t + i) (aa_cp a s t i (s + i)) = aa_cp a s t (i + 1) := by
  rw [aa_cpR a h hi]
  funext j
  unfold aa_u aa_cp
  by_cases g : j = t + i
  · rw [if_pos g, if_pos (by omega)]
    have e : s + (j - t) = s + i := by omega
    rw [e]
  · rw [if_neg g]
    by_cases k : t ≤ j ∧ j < t + i
    · rw [if_pos k, if_pos (by omega)]
    · rw [if_neg k, if_neg (by omega)]
theorem aa_clS {α : Type} (z : α) (a : Nat → α) {s i : Nat} : aa_u (aa_cl z a s i) (s + i) z = aa_cl z a s (i + 1) := by
  funext j
  unfold aa_u aa_cl
  by_cases g : j = s + i
  · rw [if_pos g, if_pos (by omega)]
  · rw [if_neg g]
    by_cases k : s ≤ j ∧ j < s + i
    · rw [if_pos k, if_pos (by omega)]
    · rw [if_neg k, if_neg (by omega)]
theorem aa_swX {α : Type} (a : Nat → α) {x y c i : Nat} (h : aa_ok x y c) (hi : i < c) : aa_sw a x y i (x + i) = a (x + i) := by
  unfold aa_sw
  rw [if_neg (by omega)]
  unfold aa_ok at h
  rw [if_neg (by omega)]
theorem aa_swY {α : Type} (a : Nat → α) {x y c i : Nat} (h : aa_ok x y c) (hi : i < c) : aa_sw a x y i (y + i) = a (y + i) := by
  unfold aa_sw
  unfold aa_ok at h
  rw [if_neg (by omega), if_neg (by omega)]
theorem aa_swS {α : Type} (a : Nat → α) {x y c i : Nat} (h : aa_ok x y c) (hi : i < c) : aa_u (aa_u (aa_sw a x y i) (x + i) (aa_sw a x y i (y + i))) (y + i) (aa_sw a x y i (x + i)) = aa_sw a x y (i + 1) := by
  rw [aa_swX a h hi, aa_swY a h hi]
  funext j
  unfold aa_u aa_sw
  unfold aa_ok at h
  by_cases g : j = y + i
  · rw [if_pos g]
    by_cases k : x ≤ j ∧ j < x + (i + 1)
    · rw [if_pos k]
      have e : y + (j - x) = x + i := by omega
      rw [e]
    · rw [if_neg k, if_pos (by omega)]
      have e : x + (j - y) = x + i := by omega
      rw [e]
  · rw [if_neg g]
    by_cases g2 : j = x + i
    · rw [if_pos g2, if_pos (by omega)]
      have e : y + (j - x) = y + i := by omega
      rw [e]
    · rw [if_neg g2]
      by_cases k : x ≤ j ∧ j < x + i
      · rw [if_pos k, if_pos (by omega)]
      · rw [if_neg k]
        by_cases k2 : y ≤ j ∧ j < y + i
        · rw [if_pos k2, if_neg (by omega), if_pos (by omega)]
        · rw [if_neg k2, if_neg (by omega), if_neg (by omega)]
/-- move: a place copied, then the old one cleared, one by one -/
theorem aa_mvS {α : Type} (z : α) (a : Nat → α) {s t c i : Nat} (h : s + c ≤ t ∨ t + c ≤ s) (hi : i < c) :
    aa_u (aa_u (aa_cl z (aa_cp a s t i) s i) (t + i) (aa_cl z (aa_cp a s t i) s i (s + i))) (s + i) z = aa_cl z (aa_cp a s t (i + 1)) s (i + 1) := by
  have e1 : aa_cl z (aa_cp a s t i) s i (s + i) = a (s + i) := by
    unfold aa_cl
    rw [if_neg (by omega)]
    exact aa_cpR a (c := c) (by unfold aa_ok; omega) hi
  rw [e1]
  funext j
  unfold aa_u aa_cl aa_cp
  by_cases g : j = s + i
  · rw [if_pos g, if_pos (by omega)]
  · rw [if_neg g]
    by_cases g2 : j = t + i
    · rw [if_pos g2, if_neg (by omega), if_pos (by omega)]
      have e : s + (j - t) = s + i := by omega
      rw [e]
    · rw [if_neg g2]
      by_cases k : s ≤ j ∧ j < s + i
      · rw [if_pos k, if_pos (by omega)]
      · rw [if_neg k, if_neg (show ¬ (s ≤ j ∧ j < s + (i + 1)) by omega)]
        by_cases k2 : t ≤ j ∧ j < t + i
        · rw [if_pos k2, if_pos (by omega)]
        · rw [if_neg k2, if_neg (by omega)]
end AA
