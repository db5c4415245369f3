/-! part 2: the pure picture of the table: rows of a key, a key's row at a place, the product, the chosen ids at a number -/
/-- row j is taken and has this key -/
def rr_q (t ks : Nat → Int32) (key : Int32) (j : Nat) : Bool := !decide (t j = 0) && decide (ks j = key)
/-- the number of rows of a key -/
def rr_n (t ks : Nat → Int32) (i : Nat) : Nat := rc_cn (rr_q t ks (nI i)) 14
/-- the id of the row at a place among a key's rows, from id i on, s of them passed -/
def rr_at (t ks : Nat → Int32) (key pl : Int32) : Nat → Nat → Nat → Int32
  | 0, _, _ => -1
  | d + 1, i, s => if rr_q t ks key i = true then (if nI s = pl then nI i else rr_at t ks key pl d (i + 1) (s + 1)) else rr_at t ks key pl d (i + 1) s
/-- the product of the keys' numbers of rows -/
def rr_p (t ks : Nat → Int32) : Nat → Nat
  | 0 => 1
  | n + 1 => if rr_n t ks n = 0 then rr_p t ks n else rr_p t ks n * rr_n t ks n
/-- the chosen ids, from key i on -/
def rr_c (t ks : Nat → Int32) : Nat → Nat → Int32 → (Nat → Int32) → (Nat → Int32)
  | 0, _, _, c => c
  | d + 1, i, x, c => if rr_n t ks i = 0 then rr_c t ks d (i + 1) x (upd c i (-1)) else rr_c t ks d (i + 1) (x / nI (rr_n t ks i)) (upd (upd c i (-1)) i (rr_at t ks (nI i) (x - x / nI (rr_n t ks i) * nI (rr_n t ks i)) 14 0 0))
/-- the smallest free id from i on -/
def rr_s (t : Nat → Int32) : Nat → Nat → Option Nat
  | 0, _ => none
  | d + 1, i => if t i = 0 then some i else rr_s t d (i + 1)
/-- an id or none -/
def rr_ok (x : Int32) : Prop := ¬ x < 0 → vp_in x 14
/-- every key's chosen id is an id or none -/
def rr_okc (c : Nat → Int32) : Prop := ∀ j, j < 6 → rr_ok (c j)
theorem rr_ok1 : rr_ok (-1) := fun h => absurd (by decide) h
theorem rr_nle (t ks : Nat → Int32) (i : Nat) : rr_n t ks i ≤ 14 := rc_le _ 14
theorem rr_at_ok (t ks : Nat → Int32) (key pl : Int32) : ∀ d i s, i + d ≤ 14 → rr_ok (rr_at t ks key pl d i s) := by
  intro d
  induction d with
  | zero => intro i s _; exact rr_ok1
  | succ d ih =>
    intro i s h
    simp only [rr_at]
    split
    · split
      · exact fun _ => vp_in_nI (by omega) (by decide)
      · exact ih _ _ (by omega)
    · exact ih _ _ (by omega)
theorem rr_c_ok (t ks : Nat → Int32) : ∀ d i x c, (∀ j, j < i → rr_ok (c j)) → ∀ j, j < i + d → rr_ok (rr_c t ks d i x c j) := by
  intro d
  induction d with
  | zero => intro i x c h j hj; exact h j hj
  | succ d ih =>
    intro i x c h j hj
    simp only [rr_c]
    split
    · refine ih (i + 1) _ _ (fun m hm => ?_) j (by omega)
      by_cases e : m = i
      · rw [e, pk_us]; exact rr_ok1
      · rw [pk_un e]; exact h m (by omega)
    · refine ih (i + 1) _ _ (fun m hm => ?_) j (by omega)
      by_cases e : m = i
      · rw [e, pk_us]; exact rr_at_ok _ _ _ _ _ _ _ (by omega)
      · rw [pk_un e, pk_un e]; exact h m (by omega)
theorem rr_c6 (t ks : Nat → Int32) (x : Int32) (c : Nat → Int32) : rr_okc (rr_c t ks 6 0 x c) := fun j hj => rr_c_ok t ks 6 0 x c (fun m hm => absurd hm (by omega)) j (by omega)
theorem rr_ple (t ks : Nat → Int32) : ∀ n, rr_p t ks n ≤ 14 ^ n := by
  intro n
  induction n with
  | zero => exact Nat.le_refl 1
  | succ n ih =>
    simp only [rr_p]
    split
    · rw [Nat.pow_succ]; omega
    · rw [Nat.pow_succ]; exact Nat.mul_le_mul ih (rr_nle t ks n)
theorem rr_p6 (t ks : Nat → Int32) : rr_p t ks 6 < 2 ^ 31 := Nat.lt_of_le_of_lt (rr_ple t ks 6) (by decide)
theorem rr_s_lt (t : Nat → Int32) : ∀ d i j, rr_s t d i = some j → j < i + d := by
  intro d
  induction d with
  | zero => intro i j h; cases h
  | succ d ih =>
    intro i j h
    simp only [rr_s] at h
    split at h
    · cases h; omega
    · have := ih _ _ h; omega
