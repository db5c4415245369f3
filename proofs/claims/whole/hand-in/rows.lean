section
/-! part 1: rows pasted from the kit's rows (pk_*), then the pure picture: counts, sums, the table, the chosen rows -/
theorem pk_us {f : Nat → Int32} {k : Nat} {x : Int32} : upd f k x k = x := if_pos rfl
theorem pk_un {f : Nat → Int32} {k j : Nat} {x : Int32} (h : j ≠ k) : upd f k x j = f j := if_neg h
theorem pk_sub {a b : Nat} (h : b ≤ a) : nI a - nI b = nI (a - b) := by
  obtain ⟨c, rfl⟩ : ∃ c, a = c + b := ⟨a - b, by omega⟩
  rw [← nI_add, Int32.add_sub_cancel, Nat.add_sub_cancel]
theorem pk_mul (a b : Nat) : nI a * nI b = nI (a * b) := (Int32.ofNat_mul a b).symm
theorem pk_tn {n : Nat} (h : n < 2 ^ 32) : (nI n).toBitVec.toNat = n := Nat.mod_eq_of_lt h
theorem pk_and (x : Int32) {m : Int32} (k : Nat) (hm : m.toBitVec.toNat = 2 ^ k - 1) : x &&& m = nI (x.toBitVec.toNat % 2 ^ k) := by
  apply Int32.toBitVec_inj.mp
  apply BitVec.eq_of_toNat_eq
  rw [Int32.toBitVec_and, BitVec.toNat_and, hm, Nat.and_two_pow_sub_one_eq_mod]
  show _ = (BitVec.ofNat 32 _).toNat
  rw [BitVec.toNat_ofNat]
  exact (Nat.mod_eq_of_lt (Nat.lt_of_le_of_lt (Nat.mod_le _ _) x.toBitVec.isLt)).symm
theorem pk_andE (x : Int32) {m : Int32} (k : Nat) (hm : m.toBitVec.toNat = 2 ^ k - 1) : ∃ j : Nat, j < 2 ^ k ∧ x &&& m = nI j := ⟨_, Nat.mod_lt _ (Nat.two_pow_pos k), pk_and x k hm⟩
theorem pk_least (P : Nat → Prop) (h : ∃ k, P k) : ∃ k, P k ∧ ∀ j, j < k → ¬ P j := by
  obtain ⟨k, hk⟩ := h
  induction k using Nat.strongRecOn with
  | ind k ih =>
    by_cases e : ∃ j, j < k ∧ P j
    · obtain ⟨j, hj, pj⟩ := e
      exact ih j hj pj
    · exact ⟨k, hk, fun j hj pj => e ⟨j, hj, pj⟩⟩
/-- how many of 0 .. n - 1 have p -/
def rc_cn (p : Nat → Bool) : Nat → Nat
  | 0 => 0
  | n + 1 => rc_cn p n + (if p n = true then 1 else 0)
/-- the sum of f over 0 .. n - 1, as ints add -/
def rc_sm (f : Nat → Int32) : Nat → Int32
  | 0 => 0
  | n + 1 => rc_sm f n + f n
theorem rc_t {p : Nat → Bool} {n : Nat} (h : p n = true) : rc_cn p (n + 1) = rc_cn p n + 1 := by simp [rc_cn, h]
theorem rc_f {p : Nat → Bool} {n : Nat} (h : p n = false) : rc_cn p (n + 1) = rc_cn p n := by simp [rc_cn, h]
theorem rc_le (p : Nat → Bool) : ∀ n, rc_cn p n ≤ n := by
  intro n
  induction n with
  | zero => exact Nat.le_refl 0
  | succ n ih => cases h : p n with
    | true => rw [rc_t h]; omega
    | false => rw [rc_f h]; omega
theorem rc_congr {p q : Nat → Bool} : ∀ n, (∀ j, j < n → p j = q j) → rc_cn p n = rc_cn q n := by
  intro n
  induction n with
  | zero => intro _; rfl
  | succ n ih =>
    intro h
    have e := ih (fun j hj => h j (by omega))
    have e2 := h n (by omega)
    simp only [rc_cn, e, e2]
theorem rc_zero {p : Nat → Bool} : ∀ n, rc_cn p n = 0 → ∀ j, j < n → p j = false := by
  intro n
  induction n with
  | zero => intro _ j hj; omega
  | succ n ih =>
    intro h j hj
    cases hp : p n with
    | true => rw [rc_t hp] at h; omega
    | false =>
      rw [rc_f hp] at h
      by_cases e : j = n
      · rw [e]; exact hp
      · exact ih h j (by omega)
theorem rc_none {p : Nat → Bool} : ∀ n, (∀ j, j < n → p j = false) → rc_cn p n = 0 := by
  intro n
  induction n with
  | zero => intro _; rfl
  | succ n ih => intro h; rw [rc_f (h n (by omega))]; exact ih (fun j hj => h j (by omega))
theorem rc_mono {p q : Nat → Bool} : ∀ n, (∀ j, j < n → p j = true → q j = true) → rc_cn p n ≤ rc_cn q n := by
  intro n
  induction n with
  | zero => intro _; exact Nat.le_refl 0
  | succ n ih =>
    intro h
    have e := ih (fun j hj => h j (by omega))
    cases hp : p n with
    | true => rw [rc_t hp, rc_t (h n (by omega) hp)]; omega
    | false =>
      rw [rc_f hp]
      cases hq : q n with
      | true => rw [rc_t hq]; omega
      | false => rw [rc_f hq]; omega
theorem rc_full {p q : Nat → Bool} : ∀ n, (∀ j, j < n → p j = true → q j = true) → rc_cn q n ≤ rc_cn p n → ∀ j, j < n → q j = true → p j = true := by
  intro n
  induction n with
  | zero => intro _ _ j hj; omega
  | succ n ih =>
    intro h hc j hj hq
    have hm := rc_mono n (fun j hj => h j (by omega))
    cases hp : p n with
    | true =>
      rw [rc_t hp, rc_t (h n (by omega) hp)] at hc
      by_cases e : j = n
      · rw [e]; exact hp
      · exact ih (fun j hj => h j (by omega)) (by omega) j (by omega) hq
    | false =>
      rw [rc_f hp] at hc
      cases hqn : q n with
      | true => rw [rc_t hqn] at hc; omega
      | false =>
        rw [rc_f hqn] at hc
        have e : j ≠ n := fun e => by rw [e, hqn] at hq; cases hq
        exact ih (fun j hj => h j (by omega)) hc j (by omega) hq
theorem rc_but {q : Nat → Bool} {k : Nat} (hk : q k = true) : ∀ n, k < n → rc_cn (fun j => q j && decide (j ≠ k)) n + 1 = rc_cn q n := by
  intro n
  induction n with
  | zero => intro h; omega
  | succ n ih =>
    intro h
    by_cases e : n = k
    · have h1 : (fun j => q j && decide (j ≠ k)) n = false := by simp [e]
      rw [rc_f h1, rc_t (by rw [e]; exact hk)]
      congr 1
      exact rc_congr n (fun j hj => by
        have : j ≠ k := by omega
        simp [this])
    · have hh := ih (by omega)
      cases hq : q n with
      | true =>
        have h1 : (fun j => q j && decide (j ≠ k)) n = true := by simp [hq, e]
        rw [rc_t h1, rc_t hq]; omega
      | false =>
        have h1 : (fun j => q j && decide (j ≠ k)) n = false := by simp [hq]
        rw [rc_f h1, rc_f hq]; omega
theorem rc_smC {f g : Nat → Int32} : ∀ n, (∀ j, j < n → f j = g j) → rc_sm f n = rc_sm g n := by
  intro n
  induction n with
  | zero => intro _; rfl
  | succ n ih =>
    intro h
    have e := ih (fun j hj => h j (by omega))
    have e2 := h n (by omega)
    simp only [rc_sm, e, e2]
theorem rc_sm0 : ∀ n, rc_sm (fun _ => 0) n = 0 := by
  intro n
  induction n with
  | zero => rfl
  | succ n ih => simp only [rc_sm, ih]; rfl
theorem rc_smA (f g : Nat → Int32) : ∀ n, rc_sm (fun j => f j + g j) n = rc_sm f n + rc_sm g n := by
  intro n
  induction n with
  | zero => rfl
  | succ n ih =>
    simp only [rc_sm, ih]
    generalize rc_sm f n = a
    generalize rc_sm g n = b
    generalize f n = c
    generalize g n = d
    grind
theorem rc_swap (f : Nat → Nat → Int32) (m : Nat) : ∀ n, rc_sm (fun g => rc_sm (fun k => f g k) m) n = rc_sm (fun k => rc_sm (fun g => f g k) n) m := by
  intro n
  induction n with
  | zero => exact (rc_sm0 m).symm
  | succ n ih =>
    show rc_sm (fun g => rc_sm (fun k => f g k) m) n + rc_sm (fun k => f n k) m = rc_sm (fun k => rc_sm (fun g => f g k) n + f n k) m
    rw [rc_smA, ih]
/-- of 0 .. n - 1 only a counts -/
theorem rc_only (v : Int32) (a : Nat) : ∀ n, rc_sm (fun g => if a = g then v else 0) n = if a < n then v else 0 := by
  intro n
  induction n with
  | zero => rfl
  | succ n ih =>
    show rc_sm (fun g => if a = g then v else 0) n + (if a = n then v else 0) = _
    rw [ih]
    by_cases h : a = n
    · rw [if_neg (by omega), if_pos h, if_pos (by omega)]; exact Int32.zero_add v
    · rw [if_neg h]
      by_cases h2 : a < n
      · rw [if_pos h2, if_pos (by omega)]; exact Int32.add_zero v
      · rw [if_neg h2, if_neg (by omega)]; rfl
theorem rc_smN {f : Nat → Int32} {b : Nat} : ∀ n, (∀ j, j < n → ∃ m, m ≤ b ∧ f j = nI m) → ∃ m, m ≤ n * b ∧ rc_sm f n = nI m := by
  intro n
  induction n with
  | zero => intro _; exact ⟨0, by omega, rfl⟩
  | succ n ih =>
    intro h
    obtain ⟨m, hm, e⟩ := ih (fun j hj => h j (by omega))
    obtain ⟨m2, hm2, e2⟩ := h n (by omega)
    refine ⟨m + m2, ?_, ?_⟩
    · rw [Nat.succ_mul]; omega
    · show rc_sm f n + f n = _
      rw [e, e2, nI_add]
theorem rc_smB {f : Nat → Int32} : ∀ n, n ≤ 100 → (∀ j, j < n → -1000 ≤ (f j).toInt ∧ (f j).toInt ≤ 1000) → -1000 * (n : Int) ≤ (rc_sm f n).toInt ∧ (rc_sm f n).toInt ≤ 1000 * (n : Int) := by
  intro n
  induction n with
  | zero =>
    intro _ _
    show -1000 * ((0 : Nat) : Int) ≤ (0 : Int32).toInt ∧ (0 : Int32).toInt ≤ 1000 * ((0 : Nat) : Int)
    decide
  | succ n ih =>
    intro hn h
    have e := ih (by omega) (fun j hj => h j (by omega))
    have e2 := h n (by omega)
    have e3 : (rc_sm f (n + 1)).toInt = (rc_sm f n).toInt + (f n).toInt := by
      show (rc_sm f n + f n).toInt = _
      rw [Int32.toInt_add]
      exact Int.bmod_eq_of_le (by omega) (by omega)
    rw [e3]
    omega
theorem rc_l14 {i : Nat} (h : i < 14) : ¬ (14 : Int32) ≤ nI i := nI_ge (b := 14) h (by decide)
theorem rc_l6 {i : Nat} (h : i < 6) : ¬ (6 : Int32) ≤ nI i := nI_ge (b := 6) h (by decide)
theorem rc_l8 {i : Nat} (h : i < 8) : ¬ (8 : Int32) ≤ nI i := nI_ge (b := 8) h (by decide)
end
section
/-! part 2: the pure picture of the table: rows of a key, a key's row at a place, the product, the chosen ids at a number -/
/-- row j is taken and has this key -/
def rr_q (t ks : Nat → Int32) (key : Int32) (j : Nat) : Bool := !decide (t j = 0) && decide (ks j = key)
/-- the number of rows of a key -/
def rr_n (t ks : Nat → Int32) (i : Nat) : Nat := rc_cn (rr_q t ks (nI i)) 14
/-- the id of the row at a place among a key's rows, from id i on, s of them passed -/
def rr_at (t ks : Nat → Int32) (key pl : Int32) : Nat → Nat → Nat → Int32
  | 0, _, _ => -1
  | d + 1, i, s => if rr_q t ks key i = true then (if nI s = pl then nI i else rr_at t ks key pl d (i + 1) (s + 1)) else rr_at t ks key pl d (i + 1) s
/-- the product of the keys' numbers of rows -/
def rr_p (t ks : Nat → Int32) : Nat → Nat
  | 0 => 1
  | n + 1 => if rr_n t ks n = 0 then rr_p t ks n else rr_p t ks n * rr_n t ks n
/-- the chosen ids, from key i on -/
def rr_c (t ks : Nat → Int32) : Nat → Nat → Int32 → (Nat → Int32) → (Nat → Int32)
  | 0, _, _, c => c
  | d + 1, i, x, c => if rr_n t ks i = 0 then rr_c t ks d (i + 1) x (upd c i (-1)) else rr_c t ks d (i + 1) (x / nI (rr_n t ks i)) (upd (upd c i (-1)) i (rr_at t ks (nI i) (x - x / nI (rr_n t ks i) * nI (rr_n t ks i)) 14 0 0))
/-- the smallest free id from i on -/
def rr_s (t : Nat → Int32) : Nat → Nat → Option Nat
  | 0, _ => none
  | d + 1, i => if t i = 0 then some i else rr_s t d (i + 1)
/-- an id or none -/
def rr_ok (x : Int32) : Prop := ¬ x < 0 → vp_in x 14
/-- every key's chosen id is an id or none -/
def rr_okc (c : Nat → Int32) : Prop := ∀ j, j < 6 → rr_ok (c j)
theorem rr_ok1 : rr_ok (-1) := fun h => absurd (by decide) h
theorem rr_nle (t ks : Nat → Int32) (i : Nat) : rr_n t ks i ≤ 14 := rc_le _ 14
theorem rr_at_ok (t ks : Nat → Int32) (key pl : Int32) : ∀ d i s, i + d ≤ 14 → rr_ok (rr_at t ks key pl d i s) := by
  intro d
  induction d with
  | zero => intro i s _; exact rr_ok1
  | succ d ih =>
    intro i s h
    simp only [rr_at]
    split
    · split
      · exact fun _ => vp_in_nI (by omega) (by decide)
      · exact ih _ _ (by omega)
    · exact ih _ _ (by omega)
theorem rr_c_ok (t ks : Nat → Int32) : ∀ d i x c, (∀ j, j < i → rr_ok (c j)) → ∀ j, j < i + d → rr_ok (rr_c t ks d i x c j) := by
  intro d
  induction d with
  | zero => intro i x c h j hj; exact h j hj
  | succ d ih =>
    intro i x c h j hj
    simp only [rr_c]
    split
    · refine ih (i + 1) _ _ (fun m hm => ?_) j (by omega)
      by_cases e : m = i
      · rw [e, pk_us]; exact rr_ok1
      · rw [pk_un e]; exact h m (by omega)
    · refine ih (i + 1) _ _ (fun m hm => ?_) j (by omega)
      by_cases e : m = i
      · rw [e, pk_us]; exact rr_at_ok _ _ _ _ _ _ _ (by omega)
      · rw [pk_un e, pk_un e]; exact h m (by omega)
theorem rr_c6 (t ks : Nat → Int32) (x : Int32) (c : Nat → Int32) : rr_okc (rr_c t ks 6 0 x c) := fun j hj => rr_c_ok t ks 6 0 x c (fun m hm => absurd hm (by omega)) j (by omega)
theorem rr_ple (t ks : Nat → Int32) : ∀ n, rr_p t ks n ≤ 14 ^ n := by
  intro n
  induction n with
  | zero => exact Nat.le_refl 1
  | succ n ih =>
    simp only [rr_p]
    split
    · rw [Nat.pow_succ]; omega
    · rw [Nat.pow_succ]; exact Nat.mul_le_mul ih (rr_nle t ks n)
theorem rr_p6 (t ks : Nat → Int32) : rr_p t ks 6 < 2 ^ 31 := Nat.lt_of_le_of_lt (rr_ple t ks 6) (by decide)
theorem rr_s_lt (t : Nat → Int32) : ∀ d i j, rr_s t d i = some j → j < i + d := by
  intro d
  induction d with
  | zero => intro i j h; cases h
  | succ d ih =>
    intro i j h
    simp only [rr_s] at h
    split at h
    · cases h; omega
    · have := ih _ _ h; omega
end
section
/-! part 3: the walks over the table, side X -/
theorem rX_rows (post : Int32 → Prop) (t ks gs vs c : Nat → Int32) (key : Int32) (hp : post (nI (rc_cn (rr_q t ks key) 14))) : wpX_rowsOfKey post (t, ks, gs, vs, c) key := by
  refine loop_0 (fun n i s => wX_rowsOfKey_4 post key t ks gs vs c n s (nI i)) (fun i s => s = nI (rc_cn (rr_q t ks key) i)) 14 0 rfl ?_ ?_
  · intro n s h
    subst h
    exact br_t (by decide) hp
  · intro n i s hi h ih
    subst h
    have e : (nI i).toNatClampNeg = i := nI_clamp (by omega)
    refine br_f (rc_l14 hi) ⟨vp_in_nI hi (by decide), ?_⟩
    by_cases h1 : t i = 0
    · exact br_t (by rw [e]; exact h1) (nm_r (nI_1 i) (ih _ (congrArg nI (rc_f (by simp [rr_q, h1])).symm)))
    · refine br_f (by rw [e]; exact h1) ⟨vp_in_nI hi (by decide), ?_⟩
      by_cases h2 : ks i = key
      · exact br_t (by rw [e]; exact h2) (nm_r (nI_1 _) (nm_r (nI_1 i) (ih _ (congrArg nI (rc_t (by simp [rr_q, h1, h2])).symm))))
      · exact br_f (by rw [e]; exact h2) (nm_r (nI_1 i) (ih _ (congrArg nI (rc_f (by simp [rr_q, h1, h2])).symm)))
theorem rX_at5 (post : Int32 → Prop) (t ks gs vs c : Nat → Int32) (key pl : Int32) : ∀ d i s, i + d = 14 → post (rr_at t ks key pl d i s) → wX_rowOfKeyAt_5 post key pl t ks gs vs c (d + 1) (nI s) (nI i) := by
  intro d
  induction d with
  | zero =>
    intro i s h hp
    have e : i = 14 := by omega
    subst e
    exact br_t (by decide) hp
  | succ d ih =>
    intro i s h hp
    have hi : i < 14 := by omega
    have e : (nI i).toNatClampNeg = i := nI_clamp (by omega)
    refine br_f (rc_l14 hi) ⟨vp_in_nI hi (by decide), ?_⟩
    by_cases h1 : t i = 0
    · exact br_t (by rw [e]; exact h1) (nm_r (nI_1 i) (ih _ _ (by omega) (by simpa [rr_at, rr_q, h1] using hp)))
    · refine br_f (by rw [e]; exact h1) ⟨vp_in_nI hi (by decide), ?_⟩
      by_cases h2 : ks i = key
      · refine br_t (by rw [e]; exact h2) ?_
        by_cases h3 : nI s = pl
        · exact br_t h3 (by simpa [rr_at, rr_q, h1, h2, h3] using hp)
        · exact br_f h3 (nm_r (nI_1 s) (nm_r (nI_1 i) (ih _ _ (by omega) (by simpa [rr_at, rr_q, h1, h2, h3] using hp))))
      · exact br_f (by rw [e]; exact h2) (nm_r (nI_1 i) (ih _ _ (by omega) (by simpa [rr_at, rr_q, h1, h2] using hp)))
theorem rX_at (post : Int32 → Prop) (t ks gs vs c : Nat → Int32) (key pl : Int32) (hp : post (rr_at t ks key pl 14 0 0)) : wpX_rowOfKeyAt post (t, ks, gs, vs, c) key pl := ⟨15, rX_at5 post t ks gs vs c key pl 14 0 0 rfl hp⟩
theorem rX_repairs (post : Int32 → Prop) (t ks gs vs c : Nat → Int32) (hp : post (nI (rr_p t ks 6))) : wpX_repairs post (t, ks, gs, vs, c) := by
  refine loop_0 (fun n i s => wX_repairs_4 post t ks gs vs c n s (nI i)) (fun i s => s = nI (rr_p t ks i)) 6 1 rfl ?_ ?_
  · intro n s h
    subst h
    exact br_t (by decide) hp
  · intro n i s hi h ih
    subst h
    refine br_f (rc_l6 hi) (rX_rows _ t ks gs vs c (nI i) ?_)
    have hn := rr_nle t ks i
    by_cases h0 : rr_n t ks i = 0
    · exact br_t (show nI (rr_n t ks i) ≤ 0 by rw [h0]; decide) (nm_r (nI_1 i) (ih _ (by simp [rr_p, h0])))
    · exact br_f (show ¬ nI (rr_n t ks i) ≤ 0 from nI_nle (by omega) (by omega)) (nm_r (pk_mul _ _) (nm_r (nI_1 i) (ih _ (by simp [rr_p, h0]; rfl))))
theorem rX_choose4 (post : SX → Prop) (t ks gs vs : Nat → Int32) : ∀ d i x c, i + d = 6 → post (t, ks, gs, vs, rr_c t ks d i x c) → wX_choose_4 post (d + 1) x (nI i) t ks gs vs c := by
  intro d
  induction d with
  | zero =>
    intro i x c h hp
    have e : i = 6 := by omega
    subst e
    exact br_t (by decide) hp
  | succ d ih =>
    intro i x c h hp
    have hi : i < 6 := by omega
    have e : (nI i).toNatClampNeg = i := nI_clamp (by omega)
    have hn := rr_nle t ks i
    refine br_f (rc_l6 hi) ⟨vp_in_nI hi (by decide), nm_r (congrArg (fun m => upd c m (-1)) e) (rX_rows _ t ks gs vs _ (nI i) ?_)⟩
    by_cases h0 : rr_n t ks i = 0
    · refine br_t (show nI (rr_n t ks i) ≤ 0 by rw [h0]; decide) (nm_r (nI_1 i) (ih _ _ _ (by omega) ?_))
      simpa [rr_c, h0] using hp
    · have hz : ¬ nI (rr_n t ks i) = 0 := nI_ne0 (by omega) (by omega)
      refine br_f (show ¬ nI (rr_n t ks i) ≤ 0 from nI_nle (by omega) (by omega)) ⟨hz, rX_at _ t ks gs vs _ (nI i) _ ⟨vp_in_nI hi (by decide), nm_r (congrArg (fun m => upd (upd c i (-1)) m _) e) ⟨hz, nm_e (nm_r (nI_1 i) (ih _ _ _ (by omega) ?_))⟩⟩⟩
      have hq : rr_c t ks (d + 1) i x c = rr_c t ks d (i + 1) (x / nI (rr_n t ks i)) (upd (upd c i (-1)) i (rr_at t ks (nI i) (x - x / nI (rr_n t ks i) * nI (rr_n t ks i)) 14 0 0)) := by simp [rr_c, h0]
      rw [hq] at hp
      exact hp
theorem rX_choose (post : SX → Prop) (t ks gs vs c : Nat → Int32) (x : Int32) (hp : post (t, ks, gs, vs, rr_c t ks 6 0 x c)) : wpX_choose post (t, ks, gs, vs, c) x := ⟨7, rX_choose4 post t ks gs vs 6 0 x c rfl hp⟩
end
section
/-! part 4: the walks over the table, side Y -/
theorem rY_rows (post : Int32 → Prop) (t ks gs vs c : Nat → Int32) (key : Int32) (hp : post (nI (rc_cn (rr_q t ks key) 14))) : wpY_rowsOf post (t, ks, gs, vs, c) key := by
  refine loop_0 (fun n i s => wY_rowsOf_4 post key t ks gs vs c n s (nI i)) (fun i s => s = nI (rc_cn (rr_q t ks key) i)) 14 0 rfl ?_ ?_
  · intro n s h
    subst h
    exact br_t (by decide) hp
  · intro n i s hi h ih
    subst h
    have e : (nI i).toNatClampNeg = i := nI_clamp (by omega)
    refine br_f (rc_l14 hi) ⟨vp_in_nI hi (by decide), ?_⟩
    by_cases h1 : t i = 0
    · exact br_t (by rw [e]; exact h1) (nm_r (nI_1 i) (ih _ (congrArg nI (rc_f (by simp [rr_q, h1])).symm)))
    · refine br_f (by rw [e]; exact h1) ⟨vp_in_nI hi (by decide), ?_⟩
      by_cases h2 : ks i = key
      · exact br_t (by rw [e]; exact h2) (nm_r (nI_1 _) (nm_r (nI_1 i) (ih _ (congrArg nI (rc_t (by simp [rr_q, h1, h2])).symm))))
      · exact br_f (by rw [e]; exact h2) (nm_r (nI_1 i) (ih _ (congrArg nI (rc_f (by simp [rr_q, h1, h2])).symm)))
theorem rY_at5 (post : Int32 → Prop) (t ks gs vs c : Nat → Int32) (key pl : Int32) : ∀ d i s, i + d = 14 → post (rr_at t ks key pl d i s) → wY_row_5 post key pl t ks gs vs c (d + 1) (nI s) (nI i) := by
  intro d
  induction d with
  | zero =>
    intro i s h hp
    have e : i = 14 := by omega
    subst e
    exact br_t (by decide) hp
  | succ d ih =>
    intro i s h hp
    have hi : i < 14 := by omega
    have e : (nI i).toNatClampNeg = i := nI_clamp (by omega)
    refine br_f (rc_l14 hi) ⟨vp_in_nI hi (by decide), ?_⟩
    by_cases h1 : t i = 0
    · exact br_t (by rw [e]; exact h1) (nm_r (nI_1 i) (ih _ _ (by omega) (by simpa [rr_at, rr_q, h1] using hp)))
    · refine br_f (by rw [e]; exact h1) ⟨vp_in_nI hi (by decide), ?_⟩
      by_cases h2 : ks i = key
      · refine br_t (by rw [e]; exact h2) ?_
        by_cases h3 : nI s = pl
        · exact br_t h3 (by simpa [rr_at, rr_q, h1, h2, h3] using hp)
        · exact br_f h3 (nm_r (nI_1 s) (nm_r (nI_1 i) (ih _ _ (by omega) (by simpa [rr_at, rr_q, h1, h2, h3] using hp))))
      · exact br_f (by rw [e]; exact h2) (nm_r (nI_1 i) (ih _ _ (by omega) (by simpa [rr_at, rr_q, h1, h2] using hp)))
theorem rY_at (post : Int32 → Prop) (t ks gs vs c : Nat → Int32) (key pl : Int32) (hp : post (rr_at t ks key pl 14 0 0)) : wpY_row post (t, ks, gs, vs, c) key pl := ⟨15, rY_at5 post t ks gs vs c key pl 14 0 0 rfl hp⟩
theorem rY_repairs (post : Int32 → Prop) (t ks gs vs c : Nat → Int32) (hp : post (nI (rr_p t ks 6))) : wpY_repairs post (t, ks, gs, vs, c) := by
  refine loop_0 (fun n i s => wY_repairs_4 post t ks gs vs c n s (nI i)) (fun i s => s = nI (rr_p t ks i)) 6 1 rfl ?_ ?_
  · intro n s h
    subst h
    exact br_t (by decide) hp
  · intro n i s hi h ih
    subst h
    refine br_f (rc_l6 hi) (rY_rows _ t ks gs vs c (nI i) ?_)
    have hn := rr_nle t ks i
    by_cases h0 : rr_n t ks i = 0
    · exact br_t (show nI (rr_n t ks i) ≤ 0 by rw [h0]; decide) (nm_r (nI_1 i) (ih _ (by simp [rr_p, h0])))
    · exact br_f (show ¬ nI (rr_n t ks i) ≤ 0 from nI_nle (by omega) (by omega)) (nm_r (pk_mul _ _) (nm_r (nI_1 i) (ih _ (by simp [rr_p, h0]; rfl))))
theorem rY_choose4 (post : SY → Prop) (t ks gs vs : Nat → Int32) : ∀ d i x c, i + d = 6 → post (t, ks, gs, vs, rr_c t ks d i x c) → wY_choose_4 post (d + 1) x (nI i) t ks gs vs c := by
  intro d
  induction d with
  | zero =>
    intro i x c h hp
    have e : i = 6 := by omega
    subst e
    exact br_t (by decide) hp
  | succ d ih =>
    intro i x c h hp
    have hi : i < 6 := by omega
    have e : (nI i).toNatClampNeg = i := nI_clamp (by omega)
    have hn := rr_nle t ks i
    refine br_f (rc_l6 hi) ⟨vp_in_nI hi (by decide), nm_r (congrArg (fun m => upd c m (-1)) e) (rY_rows _ t ks gs vs _ (nI i) ?_)⟩
    by_cases h0 : rr_n t ks i = 0
    · refine br_t (show nI (rr_n t ks i) ≤ 0 by rw [h0]; decide) (nm_r (nI_1 i) (ih _ _ _ (by omega) ?_))
      simpa [rr_c, h0] using hp
    · have hz : ¬ nI (rr_n t ks i) = 0 := nI_ne0 (by omega) (by omega)
      refine br_f (show ¬ nI (rr_n t ks i) ≤ 0 from nI_nle (by omega) (by omega)) ⟨hz, rY_at _ t ks gs vs _ (nI i) _ ⟨vp_in_nI hi (by decide), nm_r (congrArg (fun m => upd (upd c i (-1)) m _) e) ⟨hz, nm_e (nm_r (nI_1 i) (ih _ _ _ (by omega) ?_))⟩⟩⟩
      have hq : rr_c t ks (d + 1) i x c = rr_c t ks d (i + 1) (x / nI (rr_n t ks i)) (upd (upd c i (-1)) i (rr_at t ks (nI i) (x - x / nI (rr_n t ks i) * nI (rr_n t ks i)) 14 0 0)) := by simp [rr_c, h0]
      rw [hq] at hp
      exact hp
theorem rY_choose (post : SY → Prop) (t ks gs vs c : Nat → Int32) (x : Int32) (hp : post (t, ks, gs, vs, rr_c t ks 6 0 x c)) : wpY_choose post (t, ks, gs, vs, c) x := ⟨7, rY_choose4 post t ks gs vs 6 0 x c rfl hp⟩
end
section
/-! part 5: the pure picture of a chosen repair: rows, values, groups, counts, sums, set, places -/
def rm_R (c : Nat → Int32) (j : Nat) : Bool := !decide (c j < 0)
def rm_V (vs c : Nat → Int32) (j : Nat) : Int32 := vs (c j).toNatClampNeg
def rm_G (gs c : Nat → Int32) (j : Nat) : Int32 := gs (c j).toNatClampNeg
/-- the chosen row of key j is there and of group g (the reference's question) -/
def rm_q (gs c : Nat → Int32) (g : Int32) (j : Nat) : Bool := rm_R c j && decide (rm_G gs c j = g)
/-- the same with -1 for any group (the class's question) -/
def rm_a (gs c : Nat → Int32) (g : Int32) (j : Nat) : Bool := rm_R c j && (decide (g = -1) || decide (rm_G gs c j = g))
/-- the sum of the values of the chosen rows that have p -/
def rm_s (vs c : Nat → Int32) (p : Nat → Bool) : Nat → Int32 := rc_sm (fun j => if p j = true then rm_V vs c j else 0)
/-- the set of groups -/
def rm_m (gs c : Nat → Int32) : Nat → Int32
  | 0 => 0
  | n + 1 => if rm_R c n = true then rm_m gs c n ||| ((1 : Int32) <<< (rm_G gs c n &&& 31)) else rm_m gs c n
/-- how many groups a set has -/
def rm_d (m : Int32) : Nat → Int32 := rc_sm (fun g => (m >>> (nI g &&& 31)) &&& 1)
/-- row j stands before row k -/
def rm_b (vs c : Nat → Int32) (k j : Nat) : Bool := rm_R c j && (decide (rm_V vs c j < rm_V vs c k) || (decide (rm_V vs c j = rm_V vs c k) && decide (j < k)))
/-- the value at a place -/
def rm_f (vs c : Nat → Int32) (tg : Int32) : Nat → Nat → Int32
  | 0, _ => 1000000
  | d + 1, k => if rm_R c k = true ∧ nI (rc_cn (rm_b vs c k) 6) = tg then rm_V vs c k else rm_f vs c tg d (k + 1)
/-- the least and the greatest value, as the class finds them -/
def rm_lo (vs c : Nat → Int32) : Nat → Int32
  | 0 => 1000000
  | n + 1 => if rm_R c n = true then (if rm_lo vs c n ≤ rm_V vs c n then rm_lo vs c n else rm_V vs c n) else rm_lo vs c n
def rm_hi (vs c : Nat → Int32) : Nat → Int32
  | 0 => -1000000
  | n + 1 => if rm_R c n = true then (if rm_V vs c n ≤ rm_hi vs c n then rm_hi vs c n else rm_V vs c n) else rm_hi vs c n
theorem rm_Rt {c : Nat → Int32} {j : Nat} (h : ¬ c j < 0) : rm_R c j = true := by simp [rm_R, h]
theorem rm_Rf {c : Nat → Int32} {j : Nat} (h : c j < 0) : rm_R c j = false := by simp [rm_R, h]
theorem rm_Rn {c : Nat → Int32} {j : Nat} (h : rm_R c j = true) : ¬ c j < 0 := by simpa [rm_R] using h
theorem rm_st {vs c : Nat → Int32} {p : Nat → Bool} {n : Nat} (h : p n = true) : rm_s vs c p (n + 1) = rm_s vs c p n + rm_V vs c n := by simp [rm_s, rc_sm, h]
theorem rm_sf {vs c : Nat → Int32} {p : Nat → Bool} {n : Nat} (h : p n = false) : rm_s vs c p (n + 1) = rm_s vs c p n := by simp [rm_s, rc_sm, h]
theorem rm_aq {gs c : Nat → Int32} {g : Int32} (h : ¬ g = -1) : rm_a gs c g = rm_q gs c g := by
  funext j
  simp [rm_a, rm_q, h]
theorem rm_aR (gs c : Nat → Int32) : rm_a gs c (-1) = rm_R c := by
  funext j
  simp [rm_a]
end
section
/-! part 6: the walks over a chosen repair, side X -/
theorem mX_isRow (post : Int32 → Prop) (t ks gs vs c : Nat → Int32) (g : Int32) (j : Nat) (H : rr_ok (c j)) (h1 : rm_a gs c g j = true → post 1) (h0 : rm_a gs c g j = false → post 0) : wpX_isRowOf post (t, ks, gs, vs, c) (c j) g := by
  by_cases a : c j < 0
  · exact br_t a (h0 (by simp [rm_a, rm_R, a]))
  · refine br_f a ?_
    by_cases b : g = -1
    · exact br_t b (h1 (by simp [rm_a, rm_R, a, b]))
    · refine br_f b ⟨H a, ?_⟩
      by_cases e : gs (c j).toNatClampNeg = g
      · exact br_t e (h1 (by simp [rm_a, rm_R, rm_G, a, e]))
      · exact br_f e (h0 (by simp [rm_a, rm_R, rm_G, a, b, e]))
theorem mX_count (post : Int32 → Prop) (t ks gs vs c : Nat → Int32) (g : Int32) (H : rr_okc c) (hp : post (nI (rc_cn (rm_a gs c g) 6))) : wpX_chosenCount post (t, ks, gs, vs, c) g := by
  refine loop_0 (fun n i s => wX_chosenCount_4 post g t ks gs vs c n s (nI i)) (fun i s => s = nI (rc_cn (rm_a gs c g) i)) 6 0 rfl ?_ ?_
  · intro n s h
    subst h
    exact br_t (by decide) hp
  · intro n i s hi h ih
    subst h
    have e : (nI i).toNatClampNeg = i := nI_clamp (by omega)
    refine br_f (rc_l6 hi) ⟨vp_in_nI hi (by decide), nm_r (congrArg c e) (mX_isRow _ t ks gs vs c g i (H i hi) (fun q => ?_) (fun q => ?_))⟩
    · exact br_f (by decide) (nm_r (nI_1 _) (nm_r (nI_1 i) (ih _ (congrArg nI (rc_t q).symm))))
    · exact br_t rfl (nm_r (nI_1 i) (ih _ (congrArg nI (rc_f q).symm)))
theorem mX_sum (post : Int32 → Prop) (t ks gs vs c : Nat → Int32) (g : Int32) (H : rr_okc c) (hp : post (rm_s vs c (rm_a gs c g) 6)) : wpX_chosenSum post (t, ks, gs, vs, c) g := by
  refine loop_0 (fun n i s => wX_chosenSum_4 post g t ks gs vs c n s (nI i)) (fun i s => s = rm_s vs c (rm_a gs c g) i) 6 0 rfl ?_ ?_
  · intro n s h
    subst h
    exact br_t (by decide) hp
  · intro n i s hi h ih
    subst h
    have e : (nI i).toNatClampNeg = i := nI_clamp (by omega)
    refine br_f (rc_l6 hi) ⟨vp_in_nI hi (by decide), nm_r (congrArg c e) (mX_isRow _ t ks gs vs c g i (H i hi) (fun q => ?_) (fun q => ?_))⟩
    · have hr : rm_R c i = true := by
        unfold rm_a at q
        exact (Bool.and_eq_true _ _ ▸ q).1
      exact br_f (by decide) ⟨H i hi (rm_Rn hr), nm_e (nm_r (nI_1 i) (ih _ (rm_st q).symm))⟩
    · exact br_t rfl (nm_r (nI_1 i) (ih _ (rm_sf q).symm))
theorem mX_set (post : Int32 → Prop) (t ks gs vs c : Nat → Int32) (H : rr_okc c) (hp : post (rm_m gs c 6)) : wpX_chosenGroupSet post (t, ks, gs, vs, c) := by
  refine loop_0 (fun n i s => wX_chosenGroupSet_4 post t ks gs vs c n s (nI i)) (fun i s => s = rm_m gs c i) 6 0 rfl ?_ ?_
  · intro n s h
    subst h
    exact br_t (by decide) hp
  · intro n i s hi h ih
    subst h
    have e : (nI i).toNatClampNeg = i := nI_clamp (by omega)
    refine br_f (rc_l6 hi) ⟨vp_in_nI hi (by decide), nm_r (congrArg c e) ?_⟩
    by_cases a : c i < 0
    · exact br_t a (nm_r (nI_1 i) (ih _ (by simp [rm_m, rm_Rf a])))
    · exact br_f a ⟨H i hi a, nm_e (nm_r (nI_1 i) (ih _ (by simp [rm_m, rm_Rt a, rm_G])))⟩
theorem mX_groups (post : Int32 → Prop) (t ks gs vs c : Nat → Int32) (H : rr_okc c) (hp : post (rm_d (rm_m gs c 6) 8)) : wpX_chosenGroupCount post (t, ks, gs, vs, c) := by
  refine mX_set _ t ks gs vs c H ?_
  refine loop_0 (fun n i s => wX_chosenGroupCount_9 post (rm_m gs c 6) t ks gs vs c n s (nI i)) (fun i s => s = rm_d (rm_m gs c 6) i) 8 0 rfl ?_ ?_
  · intro n s h
    subst h
    exact br_t (by decide) hp
  · intro n i s hi h ih
    subst h
    exact br_f (rc_l8 hi) (nm_e (nm_r (nI_1 i) (ih _ rfl)))
theorem mX_spread (post : Int32 → Prop) (t ks gs vs c : Nat → Int32) (H : rr_okc c) (h1 : rm_lo vs c 6 = 1000000 → post 1000000) (h0 : ¬ rm_lo vs c 6 = 1000000 → post (rm_hi vs c 6 - rm_lo vs c 6)) : wpX_chosenSpread post (t, ks, gs, vs, c) := by
  refine loop_0 (fun n i (s : Int32 × Int32) => wX_chosenSpread_8 post t ks gs vs c n s.1 s.2 (nI i)) (fun i s => s = (rm_lo vs c i, rm_hi vs c i)) 6 (1000000, -1000000) rfl ?_ ?_
  · intro n s h
    subst h
    exact br_t (by decide) (br_c h1 h0)
  · intro n i s hi h ih
    subst h
    have e : (nI i).toNatClampNeg = i := nI_clamp (by omega)
    refine br_f (rc_l6 hi) ⟨vp_in_nI hi (by decide), nm_r (congrArg c e) ?_⟩
    by_cases a : c i < 0
    · exact br_t a (nm_r (nI_1 i) (ih (rm_lo vs c i, rm_hi vs c i) (by simp [rm_lo, rm_hi, rm_Rf a])))
    · refine br_f a ⟨H i hi a, ?_⟩
      have key : ∀ z : Int32, z = rm_lo vs c (i + 1) → wX_chosenSpread_49 post (wX_chosenSpread_8 post t ks gs vs c n) (rm_hi vs c i) (nI i) (c i) z t ks gs vs c := by
        intro z hz
        refine ⟨H i hi a, ?_⟩
        by_cases b : rm_V vs c i ≤ rm_hi vs c i
        · exact br_t b (nm_r (nI_1 i) (ih (z, rm_hi vs c i) (by simp [hz, rm_hi, rm_Rt a, b])))
        · exact br_f b ⟨H i hi a, nm_e (nm_r (nI_1 i) (ih (z, rm_V vs c i) (by simp [hz, rm_hi, rm_Rt a, b])))⟩
      by_cases b : rm_lo vs c i ≤ rm_V vs c i
      · exact br_t b (key _ (by simp [rm_lo, rm_Rt a, b]))
      · exact br_f b ⟨H i hi a, key _ (by simp [rm_lo, rm_Rt a, b]; rfl)⟩
theorem mX_place (post : Int32 → Prop) (t ks gs vs c : Nat → Int32) (k : Nat) (hk : k < 6) (H : rr_okc c) (hR : ¬ c k < 0) (hp : post (nI (rc_cn (rm_b vs c k) 6))) : wpX_chosenPlace post (t, ks, gs, vs, c) (nI k) := by
  have ek : (nI k).toNatClampNeg = k := nI_clamp (by omega)
  refine ⟨vp_in_nI hk (by decide), nm_r (congrArg c ek) ?_⟩
  refine loop_0 (fun n i s => wX_chosenPlace_12 post (nI k) (c k) t ks gs vs c n s (nI i)) (fun i s => s = nI (rc_cn (rm_b vs c k) i)) 6 0 rfl ?_ ?_
  · intro n s h
    subst h
    exact br_t (by decide) hp
  · intro n i s hi h ih
    subst h
    have e : (nI i).toNatClampNeg = i := nI_clamp (by omega)
    refine br_f (rc_l6 hi) ⟨vp_in_nI hi (by decide), nm_r (congrArg c e) (br_f hR ?_)⟩
    by_cases a : c i < 0
    · exact br_t a (nm_r (nI_1 i) (ih _ (congrArg nI (rc_f (by simp [rm_b, rm_Rf a])).symm)))
    · have hv := H i hi a
      have hw := H k hk hR
      refine br_f a ⟨hv, hw, ?_⟩
      have go : rm_b vs c k i = true → ∀ x4, x4 = nI i + 1 → ∀ x3, x3 = nI (rc_cn (rm_b vs c k) i) + 1 → wX_chosenPlace_12 post (nI k) (c k) t ks gs vs c n x3 x4 := by
        intro hb x4 e4 x3 e3
        rw [e4, e3, nI_1, nI_1]
        exact ih _ (congrArg nI (rc_t hb).symm)
      have st : rm_b vs c k i = false → ∀ x4, x4 = nI i + 1 → wX_chosenPlace_12 post (nI k) (c k) t ks gs vs c n (nI (rc_cn (rm_b vs c k) i)) x4 := by
        intro hb x4 e4
        rw [e4, nI_1]
        exact ih _ (congrArg nI (rc_f hb).symm)
      by_cases l : rm_V vs c k ≤ rm_V vs c i
      · refine br_t l ⟨hv, hw, ?_⟩
        have l' : ¬ rm_V vs c i < rm_V vs c k := Int32.not_lt.mpr l
        by_cases q : rm_V vs c i = rm_V vs c k
        · refine br_t q ?_
          by_cases o : k ≤ i
          · exact br_t (nI_le o (by omega)) (br_t rfl (br_t rfl (st (by
              have o' : ¬ i < k := by omega
              simp [rm_b, l', o']))))
          · exact br_f (nI_ge (by omega) (by omega)) (br_t rfl (br_f (by decide) (fun x3 e3 x4 e4 => go (by
              have o' : i < k := by omega
              simp [rm_b, rm_Rt a, q, o']) x4 e4 x3 e3)))
        · exact br_f q (br_t rfl (br_t rfl (st (by simp [rm_b, l', q]))))
      · have l' : rm_V vs c i < rm_V vs c k := Int32.not_le.mp l
        have q : ¬ rm_V vs c i = rm_V vs c k := fun q => l (by rw [q]; exact Int32.le_refl _)
        exact br_f l ⟨hv, hw, br_f q (br_f (by decide) (fun x3 e3 x4 e4 => go (by simp [rm_b, rm_Rt a, l']) x4 e4 x3 e3))⟩
theorem mX_mid12 (post : Int32 → Prop) (t ks gs vs c : Nat → Int32) (tg : Int32) (H : rr_okc c) : ∀ d k, k + d = 6 → post (rm_f vs c tg d k) → wX_chosenMiddle_12 post tg t ks gs vs c (d + 1) (nI k) := by
  intro d
  induction d with
  | zero =>
    intro k h hp
    have e : k = 6 := by omega
    subst e
    exact br_t (by decide) hp
  | succ d ih =>
    intro k h hp
    have hk : k < 6 := by omega
    have e : (nI k).toNatClampNeg = k := nI_clamp (by omega)
    refine br_f (rc_l6 hk) ⟨vp_in_nI hk (by decide), nm_r (congrArg c e) ?_⟩
    by_cases a : c k < 0
    · exact br_t a (nm_r (nI_1 k) (ih _ (by omega) (by simpa [rm_f, rm_Rf a] using hp)))
    · refine br_f a (mX_place _ t ks gs vs c k hk H a ?_)
      by_cases q : nI (rc_cn (rm_b vs c k) 6) = tg
      · refine br_t q ⟨H k hk a, ?_⟩
        have z : rm_f vs c tg (d + 1) k = rm_V vs c k := by simp [rm_f, rm_Rt a, q]
        rw [z] at hp
        exact hp
      · exact br_f q (nm_r (nI_1 k) (ih _ (by omega) (by simpa [rm_f, q] using hp)))
theorem mX_middle (post : Int32 → Prop) (t ks gs vs c : Nat → Int32) (H : rr_okc c) (hp : post (rm_f vs c ((nI (rc_cn (rm_R c) 6) - 1) / 2) 6 0)) : wpX_chosenMiddle post (t, ks, gs, vs, c) := by
  refine mX_count _ t ks gs vs c (-1) H ⟨by decide, ?_⟩
  rw [rm_aR]
  exact nm_e ⟨7, mX_mid12 post t ks gs vs c _ H 6 0 rfl hp⟩
theorem mX_mixed (post : Int32 → Prop) (t ks gs vs c : Nat → Int32) (H : rr_okc c) (h0 : rc_cn (rm_R c) 6 = 0 → post 1000000) (h1 : rc_cn (rm_R c) 6 ≠ 0 → rm_d (rm_m gs c 6) 8 = nI (rc_cn (rm_R c) 6) → post (rm_s vs c (rm_R c) 6)) (h2 : rc_cn (rm_R c) 6 ≠ 0 → ¬ rm_d (rm_m gs c 6) 8 = nI (rc_cn (rm_R c) 6) → post 1000000) : wpX_chosenMixedSum post (t, ks, gs, vs, c) := by
  refine mX_count _ t ks gs vs c (-1) H ?_
  rw [rm_aR]
  have hl := rc_le (rm_R c) 6
  by_cases z : rc_cn (rm_R c) 6 = 0
  · exact br_t (show nI (rc_cn (rm_R c) 6) = 0 by rw [z]; rfl) (h0 z)
  · refine br_f (show ¬ nI (rc_cn (rm_R c) 6) = 0 from nI_ne0 (by omega) (by omega)) (mX_groups _ t ks gs vs c H ?_)
    refine br_c (fun q => mX_sum _ t ks gs vs c (-1) H ?_) (fun q => h2 z q)
    rw [rm_aR]
    exact h1 z q
end
section
/-! part 7: the walks over a chosen repair, side Y -/
theorem mY_count (post : Int32 → Prop) (t ks gs vs c : Nat → Int32) (g : Int32) (H : rr_okc c) (hp : post (nI (rc_cn (rm_q gs c g) 6))) : wpY_count post (t, ks, gs, vs, c) g := by
  refine loop_0 (fun n i s => wY_count_4 post g t ks gs vs c n s (nI i)) (fun i s => s = nI (rc_cn (rm_q gs c g) i)) 6 0 rfl ?_ ?_
  · intro n s h
    subst h
    exact br_t (by decide) hp
  · intro n i s hi h ih
    subst h
    have e : (nI i).toNatClampNeg = i := nI_clamp (by omega)
    have v6 : vp_in (nI i) 6 := vp_in_nI hi (by decide)
    refine br_f (rc_l6 hi) ⟨v6, ?_⟩
    by_cases a : c i < 0
    · exact br_t (by rw [e]; exact a) (nm_r (nI_1 i) (ih _ (congrArg nI (rc_f (by simp [rm_q, rm_Rf a])).symm)))
    · refine br_f (by rw [e]; exact a) ⟨v6, by rw [e]; exact H i hi a, ?_⟩
      by_cases q : rm_G gs c i = g
      · exact br_t (by rw [e]; exact q) (nm_r (nI_1 _) (nm_r (nI_1 i) (ih _ (congrArg nI (rc_t (by simp [rm_q, rm_Rt a, q])).symm))))
      · exact br_f (by rw [e]; exact q) (nm_r (nI_1 i) (ih _ (congrArg nI (rc_f (by simp [rm_q, q])).symm)))
theorem mY_sum (post : Int32 → Prop) (t ks gs vs c : Nat → Int32) (g : Int32) (H : rr_okc c) (hp : post (rm_s vs c (rm_q gs c g) 6)) : wpY_sum post (t, ks, gs, vs, c) g := by
  refine loop_0 (fun n i s => wY_sum_4 post g t ks gs vs c n s (nI i)) (fun i s => s = rm_s vs c (rm_q gs c g) i) 6 0 rfl ?_ ?_
  · intro n s h
    subst h
    exact br_t (by decide) hp
  · intro n i s hi h ih
    subst h
    have e : (nI i).toNatClampNeg = i := nI_clamp (by omega)
    have v6 : vp_in (nI i) 6 := vp_in_nI hi (by decide)
    refine br_f (rc_l6 hi) ⟨v6, ?_⟩
    by_cases a : c i < 0
    · exact br_t (by rw [e]; exact a) (nm_r (nI_1 i) (ih _ (rm_sf (by simp [rm_q, rm_Rf a])).symm))
    · refine br_f (by rw [e]; exact a) ⟨v6, by rw [e]; exact H i hi a, ?_⟩
      by_cases q : rm_G gs c i = g
      · refine br_t (by rw [e]; exact q) ⟨v6, by rw [e]; exact H i hi a, nm_r (e' := rm_s vs c (rm_q gs c g) i + rm_V vs c i) (by rw [e]; rfl) (nm_r (nI_1 i) (ih _ (rm_st (by simp [rm_q, rm_Rt a, q])).symm))⟩
      · exact br_f (by rw [e]; exact q) (nm_r (nI_1 i) (ih _ (rm_sf (by simp [rm_q, q])).symm))
theorem mY_set (post : Int32 → Prop) (t ks gs vs c : Nat → Int32) (H : rr_okc c) (hp : post (rm_m gs c 6)) : wpY_mask post (t, ks, gs, vs, c) := by
  refine loop_0 (fun n i s => wY_mask_4 post t ks gs vs c n s (nI i)) (fun i s => s = rm_m gs c i) 6 0 rfl ?_ ?_
  · intro n s h
    subst h
    exact br_t (by decide) hp
  · intro n i s hi h ih
    subst h
    have e : (nI i).toNatClampNeg = i := nI_clamp (by omega)
    have v6 : vp_in (nI i) 6 := vp_in_nI hi (by decide)
    refine br_f (rc_l6 hi) ⟨v6, ?_⟩
    by_cases a : c i < 0
    · exact br_t (by rw [e]; exact a) (nm_r (nI_1 i) (ih _ (by simp [rm_m, rm_Rf a])))
    · exact br_f (by rw [e]; exact a) ⟨v6, by rw [e]; exact H i hi a, nm_r (e' := rm_m gs c i ||| ((1 : Int32) <<< (rm_G gs c i &&& 31))) (by rw [e]; rfl) (nm_r (nI_1 i) (ih _ (by simp [rm_m, rm_Rt a])))⟩
theorem mY_size (post : Int32 → Prop) (t ks gs vs c : Nat → Int32) (hp : post (nI (rc_cn (rm_R c) 6))) : wpY_size post (t, ks, gs, vs, c) := by
  refine loop_0 (fun n i s => wY_size_4 post t ks gs vs c n s (nI i)) (fun i s => s = nI (rc_cn (rm_R c) i)) 6 0 rfl ?_ ?_
  · intro n s h
    subst h
    exact br_t (by decide) hp
  · intro n i s hi h ih
    subst h
    have e : (nI i).toNatClampNeg = i := nI_clamp (by omega)
    refine br_f (rc_l6 hi) ⟨vp_in_nI hi (by decide), ?_⟩
    by_cases a : c i < 0
    · exact br_t (by rw [e]; exact a) (nm_r (nI_1 i) (ih _ (congrArg nI (rc_f (rm_Rf a)).symm)))
    · exact br_f (by rw [e]; exact a) (nm_r (nI_1 _) (nm_r (nI_1 i) (ih _ (congrArg nI (rc_t (rm_Rt a)).symm))))
/-- the inner loop of valueAt, at a key without a row -/
theorem mY_va0 (post J : Int32 → Prop) (t ks gs vs c : Nat → Int32) (tg : Int32) (k : Nat) (hk : k < 6) (a : c k < 0) (hJ : J (nI (k + 1))) (s : Int32) : ∃ n, wY_valueAt_13 post J tg (nI k) t ks gs vs c n s 0 := by
  have ek : (nI k).toNatClampNeg = k := nI_clamp (by omega)
  have vk : vp_in (nI k) 6 := vp_in_nI hk (by decide)
  refine loop_0 (fun n i s => wY_valueAt_13 post J tg (nI k) t ks gs vs c n s (nI i)) (fun _ _ => True) 6 s trivial ?_ ?_
  · intro n s _
    exact br_t (by decide) ⟨vk, br_t (by rw [ek]; exact a) (nm_r (nI_1 k) hJ)⟩
  · intro n i s hi _ ih
    exact br_f (rc_l6 hi) ⟨vk, br_t (by rw [ek]; exact a) (nm_r (nI_1 i) (ih _ trivial))⟩
/-- the inner loop of valueAt, at a key with a row -/
theorem mY_va1 (post J : Int32 → Prop) (t ks gs vs c : Nat → Int32) (tg : Int32) (k : Nat) (hk : k < 6) (H : rr_okc c) (a : ¬ c k < 0) (h1 : nI (rc_cn (rm_b vs c k) 6) = tg → post (rm_V vs c k)) (h0 : ¬ nI (rc_cn (rm_b vs c k) 6) = tg → J (nI (k + 1))) : ∃ n, wY_valueAt_13 post J tg (nI k) t ks gs vs c n 0 0 := by
  have ek : (nI k).toNatClampNeg = k := nI_clamp (by omega)
  have vk : vp_in (nI k) 6 := vp_in_nI hk (by decide)
  have wk : vp_in (c (nI k).toNatClampNeg) 14 := by rw [ek]; exact H k hk a
  have ak : ¬ c (nI k).toNatClampNeg < 0 := by rw [ek]; exact a
  have zk : vs (c (nI k).toNatClampNeg).toNatClampNeg = rm_V vs c k := by rw [ek]; rfl
  refine loop_0 (fun n i s => wY_valueAt_13 post J tg (nI k) t ks gs vs c n s (nI i)) (fun i s => s = nI (rc_cn (rm_b vs c k) i)) 6 0 rfl ?_ ?_
  · intro n s h
    subst h
    refine br_t (by decide) ⟨vk, br_f ak (br_c (fun q => ⟨vk, wk, ?_⟩) (fun q => nm_r (nI_1 k) (h0 q)))⟩
    rw [zk]
    exact h1 q
  · intro n i s hi h ih
    subst h
    have e : (nI i).toNatClampNeg = i := nI_clamp (by omega)
    have vi : vp_in (nI i) 6 := vp_in_nI hi (by decide)
    refine br_f (rc_l6 hi) ⟨vk, br_f ak ⟨vi, ?_⟩⟩
    by_cases b : c i < 0
    · exact br_t (by rw [e]; exact b) (nm_r (nI_1 i) (ih _ (congrArg nI (rc_f (by simp [rm_b, rm_Rf b])).symm)))
    · have wi : vp_in (c (nI i).toNatClampNeg) 14 := by rw [e]; exact H i hi b
      have zi : vs (c (nI i).toNatClampNeg).toNatClampNeg = rm_V vs c i := by rw [e]; rfl
      refine br_f (by rw [e]; exact b) ⟨vi, wi, nm_r zi ⟨vk, wk, nm_r zk ?_⟩⟩
      by_cases l : rm_V vs c i < rm_V vs c k
      · exact br_t l (nm_r (nI_1 _) (nm_r (nI_1 i) (ih _ (congrArg nI (rc_t (by simp [rm_b, rm_Rt b, l])).symm))))
      · refine br_f l ?_
        by_cases q : rm_V vs c i = rm_V vs c k
        · refine br_t q ?_
          by_cases o : k ≤ i
          · exact br_t (nI_le o (by omega)) (nm_r (nI_1 i) (ih _ (congrArg nI (rc_f (by
              have o' : ¬ i < k := by omega
              simp [rm_b, l, o'])).symm)))
          · exact br_f (nI_ge (by omega) (by omega)) (nm_r (nI_1 _) (nm_r (nI_1 i) (ih _ (congrArg nI (rc_t (by
              have o' : i < k := by omega
              simp [rm_b, rm_Rt b, q, o'])).symm))))
        · exact br_f q (nm_r (nI_1 i) (ih _ (congrArg nI (rc_f (by simp [rm_b, l, q])).symm)))
theorem mY_va2 (post : Int32 → Prop) (t ks gs vs c : Nat → Int32) (tg : Int32) (H : rr_okc c) : ∀ d k, k + d = 6 → post (rm_f vs c tg d k) → wY_valueAt_2 post tg t ks gs vs c (d + 1) (nI k) := by
  intro d
  induction d with
  | zero =>
    intro k h hp
    have e : k = 6 := by omega
    subst e
    exact br_t (by decide) hp
  | succ d ih =>
    intro k h hp
    have hk : k < 6 := by omega
    refine br_f (rc_l6 hk) ?_
    by_cases a : c k < 0
    · exact mY_va0 post _ t ks gs vs c tg k hk a (ih _ (by omega) (by simpa [rm_f, rm_Rf a] using hp)) 0
    · refine mY_va1 post _ t ks gs vs c tg k hk H a (fun q => ?_) (fun q => ih _ (by omega) (by simpa [rm_f, q] using hp))
      have z : rm_f vs c tg (d + 1) k = rm_V vs c k := by simp [rm_f, rm_Rt a, q]
      rw [z] at hp
      exact hp
theorem mY_valueAt (post : Int32 → Prop) (t ks gs vs c : Nat → Int32) (tg : Int32) (H : rr_okc c) (hp : post (rm_f vs c tg 6 0)) : wpY_valueAt post (t, ks, gs, vs, c) tg := ⟨7, mY_va2 post t ks gs vs c tg H 6 0 rfl hp⟩
/-- what the reference has before it looks at which measure is asked: size, different groups, the sum over the groups of the groups' sums -/
theorem mY_rest (post : Int32 → Prop) (t ks gs vs c : Nat → Int32) (w g : Int32) (H : rr_okc c) (w0 : ¬ w = 0) (w1 : ¬ w = 1)
    (hp : (w = 2 → post (rm_d (rm_m gs c 6) 8)) ∧ (¬ w = 2 → ((nI (rc_cn (rm_R c) 6) = 0 → post 1000000) ∧ (¬ nI (rc_cn (rm_R c) 6) = 0 → ((w = 3 → post (rm_f vs c (nI (rc_cn (rm_R c) 6) - 1) 6 0 - rm_f vs c 0 6 0)) ∧ (¬ w = 3 → ((w = 4 → post (rm_f vs c ((nI (rc_cn (rm_R c) 6) - 1) / 2) 6 0)) ∧ (¬ w = 4 → ((rm_d (rm_m gs c 6) 8 = nI (rc_cn (rm_R c) 6) → post (rc_sm (fun h => rm_s vs c (rm_q gs c (nI h)) 6) 8)) ∧ (¬ rm_d (rm_m gs c 6) 8 = nI (rc_cn (rm_R c) 6) → post 1000000)))))))))) : wpY_measure post (t, ks, gs, vs, c) w g := by
  refine br_f w0 (br_f w1 (mY_size _ t ks gs vs c (mY_set _ t ks gs vs c H ?_)))
  refine loop_0 (fun n i (s : Int32 × Int32) => wY_measure_41 post w (nI (rc_cn (rm_R c) 6)) (rm_m gs c 6) t ks gs vs c n s.1 s.2 (nI i)) (fun i s => s = (rm_d (rm_m gs c 6) i, rc_sm (fun h => rm_s vs c (rm_q gs c (nI h)) 6) i)) 8 (0, 0) rfl ?_ ?_
  · intro n s h
    subst h
    refine br_t (by decide) ?_
    by_cases w2 : w = 2
    · exact br_t w2 (hp.1 w2)
    · refine br_f w2 ?_
      have hp2 := hp.2 w2
      by_cases z : nI (rc_cn (rm_R c) 6) = 0
      · exact br_t z (hp2.1 z)
      · refine br_f z ?_
        have hp3 := hp2.2 z
        by_cases w3 : w = 3
        · exact br_t w3 (mY_valueAt _ t ks gs vs c _ H (mY_valueAt _ t ks gs vs c _ H (hp3.1 w3)))
        · refine br_f w3 ?_
          have hp4 := hp3.2 w3
          by_cases w4 : w = 4
          · exact br_t w4 ⟨by decide, mY_valueAt _ t ks gs vs c _ H (hp4.1 w4)⟩
          · exact br_f w4 (hp4.2 w4)
  · intro n i s hi h ih
    subst h
    refine br_f (rc_l8 hi) (nm_e (mY_sum _ t ks gs vs c (nI i) H (nm_e (nm_r (nI_1 i) (ih (rm_d (rm_m gs c 6) (i + 1), rc_sm (fun h => rm_s vs c (rm_q gs c (nI h)) 6) (i + 1)) rfl)))))
end
section
/-! part 8: what the two sides' measures have in common: least and greatest value by places, the sum by groups, bounds -/
/-- of every id: its group is 0 .. 7, its value -1000 .. 1000 -/
def rm_ok (gs vs : Nat → Int32) : Prop := ∀ j, j < 14 → (∃ g, g < 8 ∧ gs j = nI g) ∧ -1000 ≤ (vs j).toInt ∧ (vs j).toInt ≤ 1000
theorem rm_at {gs vs c : Nat → Int32} (K : rm_ok gs vs) (H : rr_okc c) {j : Nat} (hj : j < 6) (h : rm_R c j = true) : (∃ g, g < 8 ∧ rm_G gs c j = nI g) ∧ -1000 ≤ (rm_V vs c j).toInt ∧ (rm_V vs c j).toInt ≤ 1000 := by
  obtain ⟨m, hm, e⟩ := vp_in_of (H j hj (rm_Rn h)) (by decide)
  have e2 : (c j).toNatClampNeg = m := by rw [e]; exact nI_clamp (by omega)
  unfold rm_G rm_V
  rw [e2]
  exact K m hm
theorem rm_fu (vs c : Nat → Int32) (tg w : Int32) : ∀ d i, (∀ k, i ≤ k → k < i + d → rm_R c k = true → nI (rc_cn (rm_b vs c k) 6) = tg → rm_V vs c k = w) → (∃ k, i ≤ k ∧ k < i + d ∧ rm_R c k = true ∧ nI (rc_cn (rm_b vs c k) 6) = tg) → rm_f vs c tg d i = w := by
  intro d
  induction d with
  | zero => intro i _ ⟨k, h1, h2, _⟩; omega
  | succ d ih =>
    intro i hu ⟨k, h1, h2, h3, h4⟩
    simp only [rm_f]
    split
    · rename_i q
      exact hu i (by omega) (by omega) q.1 q.2
    · rename_i q
      have hk : k ≠ i := fun e => q (by rw [← e]; exact ⟨h3, h4⟩)
      exact ih (i + 1) (fun k a b => hu k (by omega) (by omega)) ⟨k, by omega, by omega, h3, h4⟩
theorem rm_fn (vs c : Nat → Int32) (tg : Int32) : ∀ d i, (∀ k, i ≤ k → k < i + d → rm_R c k = false) → rm_f vs c tg d i = 1000000 := by
  intro d
  induction d with
  | zero => intro i _; rfl
  | succ d ih =>
    intro i h
    have h0 := h i (by omega) (by omega)
    simp only [rm_f, h0]
    exact ih (i + 1) (fun k a b => h k (by omega) (by omega))
theorem rm_lo_le (vs c : Nat → Int32) : ∀ n j, j < n → rm_R c j = true → rm_lo vs c n ≤ rm_V vs c j := by
  intro n
  induction n with
  | zero => intro j h; omega
  | succ n ih =>
    intro j h hR
    simp only [rm_lo]
    by_cases e : j = n
    · subst e
      rw [if_pos hR]
      split
      · assumption
      · exact Int32.le_refl _
    · have q := ih j (by omega) hR
      split
      · split
        · exact q
        · rename_i z
          exact Int32.le_trans (Int32.le_of_lt (Int32.not_le.mp z)) q
      · exact q
theorem rm_lo_in (vs c : Nat → Int32) : ∀ n, rm_lo vs c n = 1000000 ∨ ∃ j, j < n ∧ rm_R c j = true ∧ rm_lo vs c n = rm_V vs c j := by
  intro n
  induction n with
  | zero => exact Or.inl rfl
  | succ n ih =>
    have q : rm_lo vs c n = 1000000 ∨ ∃ j, j < n + 1 ∧ rm_R c j = true ∧ rm_lo vs c n = rm_V vs c j := by
      rcases ih with h | ⟨j, a, b, e⟩
      · exact Or.inl h
      · exact Or.inr ⟨j, by omega, b, e⟩
    simp only [rm_lo]
    split
    · split
      · exact q
      · rename_i hR _
        exact Or.inr ⟨n, by omega, hR, rfl⟩
    · exact q
theorem rm_hi_le (vs c : Nat → Int32) : ∀ n j, j < n → rm_R c j = true → rm_V vs c j ≤ rm_hi vs c n := by
  intro n
  induction n with
  | zero => intro j h; omega
  | succ n ih =>
    intro j h hR
    simp only [rm_hi]
    by_cases e : j = n
    · subst e
      rw [if_pos hR]
      split
      · assumption
      · exact Int32.le_refl _
    · have q := ih j (by omega) hR
      split
      · split
        · exact q
        · rename_i z
          exact Int32.le_trans q (Int32.le_of_lt (Int32.not_le.mp z))
      · exact q
theorem rm_hi_in (vs c : Nat → Int32) : ∀ n, rm_hi vs c n = -1000000 ∨ ∃ j, j < n ∧ rm_R c j = true ∧ rm_hi vs c n = rm_V vs c j := by
  intro n
  induction n with
  | zero => exact Or.inl rfl
  | succ n ih =>
    have q : rm_hi vs c n = -1000000 ∨ ∃ j, j < n + 1 ∧ rm_R c j = true ∧ rm_hi vs c n = rm_V vs c j := by
      rcases ih with h | ⟨j, a, b, e⟩
      · exact Or.inl h
      · exact Or.inr ⟨j, by omega, b, e⟩
    simp only [rm_hi]
    split
    · split
      · exact q
      · rename_i hR _
        exact Or.inr ⟨n, by omega, hR, rfl⟩
    · exact q
theorem rm_big : (1000000 : Int32).toInt = 1000000 := by decide
theorem rm_sml : (-1000000 : Int32).toInt = -1000000 := by decide
theorem rm_lo0 {vs c : Nat → Int32} : rc_cn (rm_R c) 6 = 0 → rm_lo vs c 6 = 1000000 := by
  intro h
  rcases rm_lo_in vs c 6 with e | ⟨j, hj, hR, _⟩
  · exact e
  · rw [rc_zero 6 h j hj] at hR; cases hR
theorem rm_row {c : Nat → Int32} (h : rc_cn (rm_R c) 6 ≠ 0) : ∃ j, j < 6 ∧ rm_R c j = true := by
  apply Classical.byContradiction
  intro n
  apply h
  refine rc_none 6 (fun j hj => ?_)
  cases e : rm_R c j with
  | true => exact absurd ⟨j, hj, e⟩ n
  | false => rfl
theorem rm_lo1 {gs vs c : Nat → Int32} (K : rm_ok gs vs) (H : rr_okc c) (h : rc_cn (rm_R c) 6 ≠ 0) : ¬ rm_lo vs c 6 = 1000000 ∧ ∃ j, j < 6 ∧ rm_R c j = true ∧ rm_lo vs c 6 = rm_V vs c j := by
  obtain ⟨j, hj, hR⟩ := rm_row h
  have a := Int32.le_iff_toInt_le.mp (rm_lo_le vs c 6 j hj hR)
  have b := (rm_at K H hj hR).2.2
  have n : ¬ rm_lo vs c 6 = 1000000 := by
    intro e
    rw [e, rm_big] at a
    omega
  exact ⟨n, (rm_lo_in vs c 6).resolve_left n⟩
theorem rm_hi1 {gs vs c : Nat → Int32} (K : rm_ok gs vs) (H : rr_okc c) (h : rc_cn (rm_R c) 6 ≠ 0) : ∃ j, j < 6 ∧ rm_R c j = true ∧ rm_hi vs c 6 = rm_V vs c j := by
  obtain ⟨j, hj, hR⟩ := rm_row h
  have a := Int32.le_iff_toInt_le.mp (rm_hi_le vs c 6 j hj hR)
  have b := (rm_at K H hj hR).2.1
  have n : ¬ rm_hi vs c 6 = -1000000 := by
    intro e
    rw [e, rm_sml] at a
    omega
  exact (rm_hi_in vs c 6).resolve_left n
/-- the value at place 0 is the least -/
theorem rm_p0 {gs vs c : Nat → Int32} (K : rm_ok gs vs) (H : rr_okc c) (h : rc_cn (rm_R c) 6 ≠ 0) : rm_f vs c 0 6 0 = rm_lo vs c 6 := by
  obtain ⟨a, ha, hRa, ea⟩ := (rm_lo1 K H h).2
  refine rm_fu vs c 0 _ 6 0 (fun k _ hk hR q => ?_) ?_
  · have r0 : rc_cn (rm_b vs c k) 6 = 0 := by
      have := rc_le (rm_b vs c k) 6
      exact (nI_eq (b := 0) (by omega) (by decide)).mp q
    have z := rc_zero 6 r0 a ha
    have l : ¬ rm_V vs c a < rm_V vs c k := by
      intro l
      simp [rm_b, hRa, l] at z
    rw [ea]
    refine Int32.le_antisymm (Int32.not_lt.mp l) ?_
    rw [← ea]
    exact rm_lo_le vs c 6 k (by omega) hR
  · obtain ⟨k, ⟨hk, hR, e⟩, hl⟩ := pk_least (fun k => k < 6 ∧ rm_R c k = true ∧ rm_V vs c k = rm_lo vs c 6) ⟨a, ha, hRa, ea.symm⟩
    refine ⟨k, by omega, by omega, hR, ?_⟩
    have r0 : rc_cn (rm_b vs c k) 6 = 0 := by
      refine rc_none 6 (fun j hj => ?_)
      cases hRj : rm_R c j with
      | false => simp [rm_b, hRj]
      | true =>
        have l : ¬ rm_V vs c j < rm_V vs c k := by
          rw [e]
          exact Int32.not_lt.mpr (rm_lo_le vs c 6 j hj hRj)
        by_cases o : rm_V vs c j = rm_V vs c k
        · have o2 : ¬ j < k := fun o2 => hl j o2 ⟨hj, hRj, o.trans e⟩
          simp [rm_b, l, o2]
        · simp [rm_b, l, o]
    rw [r0]
    rfl
/-- the value at the last place is the greatest -/
theorem rm_p1 {gs vs c : Nat → Int32} (K : rm_ok gs vs) (H : rr_okc c) (h : rc_cn (rm_R c) 6 ≠ 0) : rm_f vs c (nI (rc_cn (rm_R c) 6) - 1) 6 0 = rm_hi vs c 6 := by
  obtain ⟨a, ha, hRa, ea⟩ := rm_hi1 K H h
  have hl := rc_le (rm_R c) 6
  have hs : nI (rc_cn (rm_R c) 6) - 1 = nI (rc_cn (rm_R c) 6 - 1) := pk_sub (b := 1) (by omega)
  rw [hs]
  refine rm_fu vs c _ _ 6 0 (fun k _ hk hR q => ?_) ?_
  · have r0 : rc_cn (rm_b vs c k) 6 = rc_cn (rm_R c) 6 - 1 := by
      have := rc_le (rm_b vs c k) 6
      exact (nI_eq (by omega) (by omega)).mp q
    have r1 := rc_but hR 6 (by omega)
    have full := rc_full (p := rm_b vs c k) (q := fun j => rm_R c j && decide (j ≠ k)) 6 (fun j hj hb => by
      have hRj : rm_R c j = true := by
        unfold rm_b at hb
        exact (Bool.and_eq_true _ _ ▸ hb).1
      have jk : j ≠ k := by
        intro e
        subst e
        simp [rm_b, Int32.lt_irrefl] at hb
      simp [hRj, jk]) (by omega)
    have up : rm_V vs c a ≤ rm_V vs c k := by
      by_cases e : a = k
      · rw [e]; exact Int32.le_refl _
      · have b := full a ha (by simp [hRa, e])
        unfold rm_b at b
        simp only [hRa, Bool.true_and, Bool.or_eq_true, Bool.and_eq_true, decide_eq_true_eq] at b
        rcases b with b | ⟨b, _⟩
        · exact Int32.le_of_lt b
        · rw [b]; exact Int32.le_refl _
    rw [ea]
    refine Int32.le_antisymm ?_ up
    rw [← ea]
    exact rm_hi_le vs c 6 k (by omega) hR
  · obtain ⟨m, ⟨hm, hR, e⟩, hg⟩ := pk_least (fun m => m < 6 ∧ rm_R c (5 - m) = true ∧ rm_V vs c (5 - m) = rm_hi vs c 6) ⟨5 - a, by omega, by rw [show 5 - (5 - a) = a by omega]; exact ⟨hRa, ea.symm⟩⟩
    obtain ⟨k, hk⟩ : ∃ k, k = 5 - m := ⟨_, rfl⟩
    rw [← hk] at hR e
    refine ⟨k, by omega, by omega, hR, congrArg nI ?_⟩
    have r1 := rc_but hR 6 (by omega)
    have r2 : rc_cn (rm_b vs c k) 6 = rc_cn (fun j => rm_R c j && decide (j ≠ k)) 6 := by
      refine rc_congr 6 (fun j hj => ?_)
      cases hRj : rm_R c j with
      | false => simp [rm_b, hRj]
      | true =>
        by_cases jk : j = k
        · subst jk
          simp [rm_b, Int32.lt_irrefl]
        · have u : rm_V vs c j ≤ rm_V vs c k := by rw [e]; exact rm_hi_le vs c 6 j hj hRj
          by_cases l : rm_V vs c j < rm_V vs c k
          · simp [rm_b, hRj, l, jk]
          · have q : rm_V vs c j = rm_V vs c k := Int32.le_antisymm u (Int32.not_lt.mp l)
            have o : j < k := by
              apply Classical.byContradiction
              intro o
              refine hg (5 - j) (by omega) ⟨by omega, ?_⟩
              rw [show 5 - (5 - j) = j by omega]
              exact ⟨hRj, q.trans e⟩
            simp [rm_b, hRj, q, o, jk]
    rw [r2]
    omega
/-- the groups' sums add up to the sum -/
theorem rm_all {gs vs c : Nat → Int32} (K : rm_ok gs vs) (H : rr_okc c) : rc_sm (fun h => rm_s vs c (rm_q gs c (nI h)) 6) 8 = rm_s vs c (rm_R c) 6 := by
  unfold rm_s
  rw [rc_swap (fun h j => if rm_q gs c (nI h) j = true then rm_V vs c j else 0) 6 8]
  refine rc_smC 6 (fun j hj => ?_)
  cases hR : rm_R c j with
  | false =>
    have z : rc_sm (fun g => if rm_q gs c (nI g) j = true then rm_V vs c j else 0) 8 = rc_sm (fun _ => 0) 8 := rc_smC 8 (fun g _ => by simp [rm_q, hR])
    rw [z, rc_sm0]
    rfl
  | true =>
    obtain ⟨a, ha, e⟩ := (rm_at K H hj hR).1
    have z : rc_sm (fun g => if rm_q gs c (nI g) j = true then rm_V vs c j else 0) 8 = rc_sm (fun g => if a = g then rm_V vs c j else 0) 8 := by
      refine rc_smC 8 (fun g hg => ?_)
      have w : (rm_q gs c (nI g) j = true) ↔ a = g := by
        unfold rm_q
        rw [hR, e, Bool.true_and, decide_eq_true_eq]
        exact nI_eq (by omega) (by omega)
      by_cases q : a = g
      · rw [if_pos (w.mpr q), if_pos q]
      · rw [if_neg (fun x => q (w.mp x)), if_neg q]
    rw [z, rc_only, if_pos ha]
    rfl
theorem rm_le_cn (p : Nat → Bool) : nI (rc_cn p 6) ≤ 1000000 := nI_le (b := 1000000) (by have := rc_le p 6; omega) (by decide)
theorem rm_le_s {gs vs c : Nat → Int32} (K : rm_ok gs vs) (H : rr_okc c) (g : Int32) : rm_s vs c (rm_q gs c g) 6 ≤ 1000000 := by
  have b := rc_smB (f := fun j => if rm_q gs c g j = true then rm_V vs c j else 0) 6 (by omega) (fun j hj => by
    split
    · rename_i q
      have hR : rm_R c j = true := by
        unfold rm_q at q
        exact (Bool.and_eq_true _ _ ▸ q).1
      exact (rm_at K H hj hR).2
    · decide)
  apply Int32.le_iff_toInt_le.mpr
  rw [rm_big]
  have b2 := b.2
  unfold rm_s
  omega
theorem rm_le_d (m : Int32) : rm_d m 8 ≤ 1000000 := by
  obtain ⟨a, ha, e⟩ := rc_smN (f := fun g => (m >>> (nI g &&& 31)) &&& 1) (b := 1) 8 (fun j _ => by
    obtain ⟨z, hz, e⟩ := pk_andE (m >>> (nI j &&& 31)) (m := 1) 1 (by decide)
    exact ⟨z, by omega, e⟩)
  unfold rm_d
  rw [e]
  exact nI_le (b := 1000000) (by omega) (by decide)
/-- the class's spread of a repair -/
def rm_sp (vs c : Nat → Int32) : Int32 := if rm_lo vs c 6 = 1000000 then 1000000 else rm_hi vs c 6 - rm_lo vs c 6
theorem rm_le_sp {gs vs c : Nat → Int32} (K : rm_ok gs vs) (H : rr_okc c) : rm_sp vs c ≤ 1000000 := by
  unfold rm_sp
  split
  · exact Int32.le_refl _
  · rename_i n
    have h : rc_cn (rm_R c) 6 ≠ 0 := fun z => n (rm_lo0 z)
    obtain ⟨a, ha, hRa, ea⟩ := (rm_lo1 K H h).2
    obtain ⟨b, hb, hRb, eb⟩ := rm_hi1 K H h
    rw [ea, eb]
    have x := (rm_at K H ha hRa).2
    have y := (rm_at K H hb hRb).2
    apply Int32.le_iff_toInt_le.mpr
    rw [rm_big, Int32.toInt_sub, Int.bmod_eq_of_le (by omega) (by omega)]
    omega
end
section
/-! part 9: each measure on both sides, then the least and the most over all repairs, and the search of exactly -/
/-- the class's mixed sum of a repair -/
def rm_mi (gs vs c : Nat → Int32) : Int32 := if rc_cn (rm_R c) 6 = 0 then 1000000 else if rm_d (rm_m gs c 6) 8 = nI (rc_cn (rm_R c) 6) then rm_s vs c (rm_R c) 6 else 1000000
/-- one number is the measure of both sides -/
def rq_B (t ks gs vs : Nat → Int32) (mv : (Nat → Int32) → Int32) (w g w' g' : Int32) : Prop := ∀ c, rr_okc c → (∀ P : Int32 → Prop, P (mv c) → wpX_measureChosen P (t, ks, gs, vs, c) w g) ∧ (∀ P : Int32 → Prop, P (mv c) → wpY_measure P (t, ks, gs, vs, c) w' g')
theorem rq_0 (t ks gs vs : Nat → Int32) (g : Int32) (hg : ¬ g = -1) : rq_B t ks gs vs (fun c => nI (rc_cn (rm_q gs c g) 6)) 0 g 0 g := fun c H =>
  ⟨fun P hP => br_f (by decide) (br_f (by decide) (br_t rfl (mX_count _ t ks gs vs c g H (by rw [rm_aq hg]; exact hP)))),
   fun P hP => br_t rfl (mY_count _ t ks gs vs c g H hP)⟩
theorem rq_1 (t ks gs vs : Nat → Int32) (g : Int32) (hg : ¬ g = -1) : rq_B t ks gs vs (fun c => rm_s vs c (rm_q gs c g) 6) 1 g 1 g := fun c H =>
  ⟨fun P hP => br_f (by decide) (br_f (by decide) (br_f (by decide) (br_t rfl (mX_sum _ t ks gs vs c g H (by rw [rm_aq hg]; exact hP))))),
   fun P hP => br_f (by decide) (br_t rfl (mY_sum _ t ks gs vs c g H hP))⟩
theorem rq_2 (t ks gs vs : Nat → Int32) : rq_B t ks gs vs (fun c => rm_d (rm_m gs c 6) 8) 2 (-1) 2 0 := fun c H =>
  ⟨fun P hP => br_f (by decide) (br_f (by decide) (br_f (by decide) (br_f (by decide) (br_t rfl (mX_groups _ t ks gs vs c H hP))))),
   fun P hP => mY_rest P t ks gs vs c 2 0 H (by decide) (by decide) (br_t rfl hP)⟩
theorem rq_z {c : Nat → Int32} : nI (rc_cn (rm_R c) 6) = 0 ↔ rc_cn (rm_R c) 6 = 0 := by
  have := rc_le (rm_R c) 6
  exact nI_eq (b := 0) (by omega) (by decide)
theorem rq_3 (t ks gs vs : Nat → Int32) (K : rm_ok gs vs) : rq_B t ks gs vs (fun c => rm_sp vs c) 3 (-1) 3 0 := fun c H =>
  ⟨fun P hP => br_f (by decide) (br_f (by decide) (br_f (by decide) (br_f (by decide) (br_f (by decide) (br_t rfl (mX_spread _ t ks gs vs c H (fun e => by
      have z : rm_sp vs c = 1000000 := by simp [rm_sp, e]
      rw [← z]; exact hP) (fun e => by
      have z : rm_sp vs c = rm_hi vs c 6 - rm_lo vs c 6 := by simp [rm_sp, e]
      rw [← z]; exact hP))))))),
   fun P hP => mY_rest P t ks gs vs c 3 0 H (by decide) (by decide) (br_f (by decide) (br_c (fun e => by
      have z : rm_sp vs c = 1000000 := by simp [rm_sp, rm_lo0 (vs := vs) (rq_z.mp e)]
      rw [← z]; exact hP) (fun e => br_t rfl (by
      have h : rc_cn (rm_R c) 6 ≠ 0 := fun x => e (rq_z.mpr x)
      have z : rm_sp vs c = rm_hi vs c 6 - rm_lo vs c 6 := by simp [rm_sp, (rm_lo1 K H h).1]
      rw [rm_p0 K H h, rm_p1 K H h, ← z]; exact hP))))⟩
theorem rq_4 (t ks gs vs : Nat → Int32) : rq_B t ks gs vs (fun c => rm_f vs c ((nI (rc_cn (rm_R c) 6) - 1) / 2) 6 0) 4 (-1) 4 0 := fun c H =>
  ⟨fun P hP => br_f (by decide) (br_f (by decide) (br_f (by decide) (br_f (by decide) (br_f (by decide) (br_f (by decide) (br_t rfl (mX_middle _ t ks gs vs c H hP))))))),
   fun P hP => mY_rest P t ks gs vs c 4 0 H (by decide) (by decide) (br_f (by decide) (br_c (fun e => by
      have z := rm_fn vs c ((nI (rc_cn (rm_R c) 6) - 1) / 2) 6 0 (fun k _ hk => rc_zero 6 (rq_z.mp e) k (by omega))
      rw [← z]; exact hP) (fun _ => br_f (by decide) (br_t rfl hP))))⟩
theorem rq_5 (t ks gs vs : Nat → Int32) (K : rm_ok gs vs) : rq_B t ks gs vs (fun c => rm_mi gs vs c) 5 (-1) 5 0 := fun c H =>
  ⟨fun P hP => br_f (by decide) (br_f (by decide) (br_f (by decide) (br_f (by decide) (br_f (by decide) (br_f (by decide) (br_f (by decide) (br_t rfl (mX_mixed _ t ks gs vs c H (fun e => by
      have z : rm_mi gs vs c = 1000000 := by simp [rm_mi, e]
      rw [← z]; exact hP) (fun e q => by
      have z : rm_mi gs vs c = rm_s vs c (rm_R c) 6 := by simp [rm_mi, e, q]
      rw [← z]; exact hP) (fun e q => by
      have z : rm_mi gs vs c = 1000000 := by simp [rm_mi, q]
      rw [← z]; exact hP))))))))),
   fun P hP => mY_rest P t ks gs vs c 5 0 H (by decide) (by decide) (br_f (by decide) (br_c (fun e => by
      have z : rm_mi gs vs c = 1000000 := by simp [rm_mi, rq_z.mp e]
      rw [← z]; exact hP) (fun e => br_f (by decide) (br_f (by decide) (br_c (fun q => by
      have h : rc_cn (rm_R c) 6 ≠ 0 := fun x => e (rq_z.mpr x)
      have z : rm_mi gs vs c = rm_s vs c (rm_R c) 6 := by simp [rm_mi, h, q]
      rw [rm_all K H, ← z]; exact hP) (fun q => by
      have z : rm_mi gs vs c = 1000000 := by simp [rm_mi, q]
      rw [← z]; exact hP))))))⟩
/-- the least over the repairs from number i on, with the chosen ids at the end -/
def rq_L (t ks : Nat → Int32) (mv : (Nat → Int32) → Int32) : Nat → Nat → Int32 → (Nat → Int32) → Int32 × (Nat → Int32)
  | 0, _, x, c => (x, c)
  | d + 1, i, x, c => rq_L t ks mv d (i + 1) (if x ≤ mv (rr_c t ks 6 0 (nI i) c) then x else mv (rr_c t ks 6 0 (nI i) c)) (rr_c t ks 6 0 (nI i) c)
/-- the most -/
def rq_M (t ks : Nat → Int32) (mv : (Nat → Int32) → Int32) : Nat → Nat → Int32 → (Nat → Int32) → Int32 × (Nat → Int32)
  | 0, _, x, c => (x, c)
  | d + 1, i, x, c => rq_M t ks mv d (i + 1) (if mv (rr_c t ks 6 0 (nI i) c) = 1000000 then x else if x = 1000000 then mv (rr_c t ks 6 0 (nI i) c) else if mv (rr_c t ks 6 0 (nI i) c) ≤ x then x else mv (rr_c t ks 6 0 (nI i) c)) (rr_c t ks 6 0 (nI i) c)
/-- whether some repair has just this set of groups -/
def rq_E (t ks gs : Nat → Int32) (w : Int32) : Nat → Nat → (Nat → Int32) → Int32 × (Nat → Int32)
  | 0, _, c => (0, c)
  | d + 1, i, c => if rm_m gs (rr_c t ks 6 0 (nI i) c) 6 = w then (1, rr_c t ks 6 0 (nI i) c) else rq_E t ks gs w d (i + 1) (rr_c t ks 6 0 (nI i) c)
theorem qX_least12 (post : Int32 → SX → Prop) {t ks gs vs : Nat → Int32} {mv : (Nat → Int32) → Int32} {w g w' g' : Int32} (B : rq_B t ks gs vs mv w g w' g') (N : Nat) (hN : N < 2 ^ 31) : ∀ d i x c, i + d = N → post (rq_L t ks mv d i x c).1 (t, ks, gs, vs, (rq_L t ks mv d i x c).2) → wX_leastOver_12 post w g (nI N) (d + 1) x (nI i) t ks gs vs c := by
  intro d
  induction d with
  | zero =>
    intro i x c h hp
    exact br_t (nI_le (by omega) (by omega)) hp
  | succ d ih =>
    intro i x c h hp
    refine br_f (nI_ge (by omega) hN) (rX_choose _ t ks gs vs c (nI i) ((B _ (rr_c6 t ks (nI i) c)).1 _ ?_))
    simp only [rq_L] at hp
    refine br_c (fun q => nm_r (nI_1 i) (ih _ _ _ (by omega) ?_)) (fun q => nm_r (nI_1 i) (ih _ _ _ (by omega) ?_))
    · rw [if_pos q] at hp; exact hp
    · rw [if_neg q] at hp; exact hp
theorem qX_least (post : Int32 → SX → Prop) {t ks gs vs : Nat → Int32} {mv : (Nat → Int32) → Int32} {w g w' g' : Int32} (B : rq_B t ks gs vs mv w g w' g') (c : Nat → Int32) (hp : post (rq_L t ks mv (rr_p t ks 6) 0 1000000 c).1 (t, ks, gs, vs, (rq_L t ks mv (rr_p t ks 6) 0 1000000 c).2)) : wpX_leastOver post (t, ks, gs, vs, c) w g :=
  rX_repairs _ t ks gs vs c ⟨rr_p t ks 6 + 1, qX_least12 post B _ (rr_p6 t ks) _ 0 _ c (Nat.zero_add _) hp⟩
theorem qX_most12 (post : Int32 → SX → Prop) {t ks gs vs : Nat → Int32} {mv : (Nat → Int32) → Int32} {w g w' g' : Int32} (B : rq_B t ks gs vs mv w g w' g') (N : Nat) (hN : N < 2 ^ 31) : ∀ d i x c, i + d = N → post (rq_M t ks mv d i x c).1 (t, ks, gs, vs, (rq_M t ks mv d i x c).2) → wX_mostOver_12 post w g (nI N) (d + 1) x (nI i) t ks gs vs c := by
  intro d
  induction d with
  | zero =>
    intro i x c h hp
    exact br_t (nI_le (by omega) (by omega)) hp
  | succ d ih =>
    intro i x c h hp
    refine br_f (nI_ge (by omega) hN) (rX_choose _ t ks gs vs c (nI i) ((B _ (rr_c6 t ks (nI i) c)).1 _ ?_))
    simp only [rq_M] at hp
    refine br_c (fun q => nm_r (nI_1 i) (ih _ _ _ (by omega) ?_)) (fun q => br_c (fun q2 => nm_r (nI_1 i) (ih _ _ _ (by omega) ?_)) (fun q2 => br_c (fun q3 => nm_r (nI_1 i) (ih _ _ _ (by omega) ?_)) (fun q3 => nm_r (nI_1 i) (ih _ _ _ (by omega) ?_))))
    · rw [if_pos q] at hp; exact hp
    · rw [if_neg q, if_pos q2] at hp; exact hp
    · rw [if_neg q, if_neg q2, if_pos q3] at hp; exact hp
    · rw [if_neg q, if_neg q2, if_neg q3] at hp; exact hp
theorem qX_most (post : Int32 → SX → Prop) {t ks gs vs : Nat → Int32} {mv : (Nat → Int32) → Int32} {w g w' g' : Int32} (B : rq_B t ks gs vs mv w g w' g') (c : Nat → Int32) (hp : post (rq_M t ks mv (rr_p t ks 6) 0 1000000 c).1 (t, ks, gs, vs, (rq_M t ks mv (rr_p t ks 6) 0 1000000 c).2)) : wpX_mostOver post (t, ks, gs, vs, c) w g :=
  rX_repairs _ t ks gs vs c ⟨rr_p t ks 6 + 1, qX_most12 post B _ (rr_p6 t ks) _ 0 _ c (Nat.zero_add _) hp⟩
theorem qY_most12 (post : Int32 → SY → Prop) {t ks gs vs : Nat → Int32} {mv : (Nat → Int32) → Int32} {w g w' g' : Int32} (B : rq_B t ks gs vs mv w g w' g') (N : Nat) (hN : N < 2 ^ 31) : ∀ d i x c, i + d = N → post (rq_M t ks mv d i x c).1 (t, ks, gs, vs, (rq_M t ks mv d i x c).2) → wY_most_12 post w' g' (nI N) (d + 1) x (nI i) t ks gs vs c := by
  intro d
  induction d with
  | zero =>
    intro i x c h hp
    exact br_t (nI_le (by omega) (by omega)) hp
  | succ d ih =>
    intro i x c h hp
    refine br_f (nI_ge (by omega) hN) (rY_choose _ t ks gs vs c (nI i) ((B _ (rr_c6 t ks (nI i) c)).2 _ ?_))
    simp only [rq_M] at hp
    refine br_c (fun q => nm_r (nI_1 i) (ih _ _ _ (by omega) ?_)) (fun q => br_c (fun q2 => nm_r (nI_1 i) (ih _ _ _ (by omega) ?_)) (fun q2 => br_c (fun q3 => nm_r (nI_1 i) (ih _ _ _ (by omega) ?_)) (fun q3 => nm_r (nI_1 i) (ih _ _ _ (by omega) ?_))))
    · rw [if_pos q] at hp; exact hp
    · rw [if_neg q, if_pos q2] at hp; exact hp
    · rw [if_neg q, if_neg q2, if_pos q3] at hp; exact hp
    · rw [if_neg q, if_neg q2, if_neg q3] at hp; exact hp
theorem qY_most (post : Int32 → SY → Prop) {t ks gs vs : Nat → Int32} {mv : (Nat → Int32) → Int32} {w g w' g' : Int32} (B : rq_B t ks gs vs mv w g w' g') (c : Nat → Int32) (hp : post (rq_M t ks mv (rr_p t ks 6) 0 1000000 c).1 (t, ks, gs, vs, (rq_M t ks mv (rr_p t ks 6) 0 1000000 c).2)) : wpY_most post (t, ks, gs, vs, c) w' g' :=
  rY_repairs _ t ks gs vs c ⟨rr_p t ks 6 + 1, qY_most12 post B _ (rr_p6 t ks) _ 0 _ c (Nat.zero_add _) hp⟩
theorem qY_least12 (post : Int32 → SY → Prop) {t ks gs vs : Nat → Int32} {mv : (Nat → Int32) → Int32} {w g w' g' : Int32} (B : rq_B t ks gs vs mv w g w' g') (hb : ∀ c, rr_okc c → mv c ≤ 1000000) (N : Nat) (hN : N < 2 ^ 31) : ∀ d i x c, i + d = N → x ≤ 1000000 → post (rq_L t ks mv d i x c).1 (t, ks, gs, vs, (rq_L t ks mv d i x c).2) → wY_least_12 post w' g' (nI N) (d + 1) x (nI i) t ks gs vs c := by
  intro d
  induction d with
  | zero =>
    intro i x c h hx hp
    exact br_t (nI_le (by omega) (by omega)) hp
  | succ d ih =>
    intro i x c h hx hp
    have hb' := hb _ (rr_c6 t ks (nI i) c)
    refine br_f (nI_ge (by omega) hN) (rY_choose _ t ks gs vs c (nI i) ((B _ (rr_c6 t ks (nI i) c)).2 _ ?_))
    simp only [rq_L] at hp
    refine br_c (fun q => nm_r (nI_1 i) (ih _ _ _ (by omega) hx ?_)) (fun q => br_c (fun q2 => nm_r (nI_1 i) (ih _ _ _ (by omega) hb' ?_)) (fun q2 => br_c (fun q3 => nm_r (nI_1 i) (ih _ _ _ (by omega) hx ?_)) (fun q3 => nm_r (nI_1 i) (ih _ _ _ (by omega) hb' ?_))))
    · rw [if_pos (by rw [q]; exact hx)] at hp; exact hp
    · rw [if_neg (fun z => q (Int32.le_antisymm hb' (by rw [← q2]; exact z)))] at hp; exact hp
    · rw [if_pos q3] at hp; exact hp
    · rw [if_neg q3] at hp; exact hp
theorem qY_least (post : Int32 → SY → Prop) {t ks gs vs : Nat → Int32} {mv : (Nat → Int32) → Int32} {w g w' g' : Int32} (B : rq_B t ks gs vs mv w g w' g') (hb : ∀ c, rr_okc c → mv c ≤ 1000000) (c : Nat → Int32) (hp : post (rq_L t ks mv (rr_p t ks 6) 0 1000000 c).1 (t, ks, gs, vs, (rq_L t ks mv (rr_p t ks 6) 0 1000000 c).2)) : wpY_least post (t, ks, gs, vs, c) w' g' :=
  rY_repairs _ t ks gs vs c ⟨rr_p t ks 6 + 1, qY_least12 post B hb _ (rr_p6 t ks) _ 0 _ c (Nat.zero_add _) (Int32.le_refl _) hp⟩
theorem qX_ex14 (post : Int32 → SX → Prop) (t ks gs vs : Nat → Int32) (w : Int32) (N : Nat) (hN : N < 2 ^ 31) : ∀ d i c, i + d = N → post (rq_E t ks gs w d i c).1 (t, ks, gs, vs, (rq_E t ks gs w d i c).2) → wX_exactly_14 post w (nI N) (d + 1) (nI i) t ks gs vs c := by
  intro d
  induction d with
  | zero =>
    intro i c h hp
    exact br_t (nI_le (by omega) (by omega)) hp
  | succ d ih =>
    intro i c h hp
    refine br_f (nI_ge (by omega) hN) (rX_choose _ t ks gs vs c (nI i) (mX_set _ t ks gs vs _ (rr_c6 t ks (nI i) c) ?_))
    simp only [rq_E] at hp
    refine br_c (fun q => ?_) (fun q => nm_r (nI_1 i) (ih _ _ (by omega) ?_))
    · rw [if_pos q] at hp; exact hp
    · rw [if_neg q] at hp; exact hp
theorem qX_ex (post : Int32 → SX → Prop) (t ks gs vs c : Nat → Int32) (m : Int32) (hp : post (rq_E t ks gs (m &&& 255) (rr_p t ks 6) 0 c).1 (t, ks, gs, vs, (rq_E t ks gs (m &&& 255) (rr_p t ks 6) 0 c).2)) : wpX_exactly post (t, ks, gs, vs, c) m :=
  nm_e (rX_repairs _ t ks gs vs c ⟨rr_p t ks 6 + 1, qX_ex14 post t ks gs vs _ _ (rr_p6 t ks) _ 0 c (Nat.zero_add _) hp⟩)
theorem qY_ex7 (post : Int32 → SY → Prop) (t ks gs vs : Nat → Int32) (m : Int32) (N : Nat) (hN : N < 2 ^ 31) : ∀ d i c, i + d = N → post (rq_E t ks gs (m &&& 255) d i c).1 (t, ks, gs, vs, (rq_E t ks gs (m &&& 255) d i c).2) → wY_exactly_7 post m (nI N) (d + 1) (nI i) t ks gs vs c := by
  intro d
  induction d with
  | zero =>
    intro i c h hp
    exact br_t (nI_le (by omega) (by omega)) hp
  | succ d ih =>
    intro i c h hp
    refine br_f (nI_ge (by omega) hN) (rY_choose _ t ks gs vs c (nI i) (mY_set _ t ks gs vs _ (rr_c6 t ks (nI i) c) ?_))
    simp only [rq_E] at hp
    refine br_c (fun q => ?_) (fun q => nm_r (nI_1 i) (ih _ _ (by omega) ?_))
    · rw [if_pos q] at hp; exact hp
    · rw [if_neg q] at hp; exact hp
theorem qY_ex (post : Int32 → SY → Prop) (t ks gs vs c : Nat → Int32) (m : Int32) (hp : post (rq_E t ks gs (m &&& 255) (rr_p t ks 6) 0 c).1 (t, ks, gs, vs, (rq_E t ks gs (m &&& 255) (rr_p t ks 6) 0 c).2)) : wpY_exactly post (t, ks, gs, vs, c) m :=
  rY_repairs _ t ks gs vs c ⟨rr_p t ks 6 + 1, qY_ex7 post t ks gs vs m _ (rr_p6 t ks) _ 0 c (Nat.zero_add _) hp⟩
end
section
/-! part 10: the free id, the number of rows taken, the group check, on both sides -/
theorem sX_free2 (post : Int32 → Prop) (t ks gs vs c : Nat → Int32) : ∀ d i, i + d = 14 → (rr_s t d i = none → post (-1)) → (∀ j, rr_s t d i = some j → post (nI j)) → wX_smallestFreeId_2 post t ks gs vs c (d + 1) (nI i) := by
  intro d
  induction d with
  | zero =>
    intro i h hn _
    have e : i = 14 := by omega
    subst e
    exact br_t (by decide) (hn rfl)
  | succ d ih =>
    intro i h hn hs
    have hi : i < 14 := by omega
    have e : (nI i).toNatClampNeg = i := nI_clamp (by omega)
    refine br_f (rc_l14 hi) ⟨vp_in_nI hi (by decide), ?_⟩
    by_cases h1 : t i = 0
    · exact br_t (by rw [e]; exact h1) (hs i (by simp [rr_s, h1]))
    · exact br_f (by rw [e]; exact h1) (nm_r (nI_1 i) (ih _ (by omega) (fun q => hn (by simp [rr_s, h1, q])) (fun j q => hs j (by simp [rr_s, h1, q]))))
theorem sX_free (post : Int32 → Prop) (t ks gs vs c : Nat → Int32) (hn : rr_s t 14 0 = none → post (-1)) (hs : ∀ j, rr_s t 14 0 = some j → post (nI j)) : wpX_smallestFreeId post (t, ks, gs, vs, c) := ⟨15, sX_free2 post t ks gs vs c 14 0 rfl hn hs⟩
theorem sY_add44 (post : Int32 → SY → Prop) (a b v : Int32) (t ks gs vs c : Nat → Int32) : ∀ d i, i + d = 14 → (rr_s t d i = none → post (-4) (t, ks, gs, vs, c)) → (∀ j, rr_s t d i = some j → post (nI j) (upd t j (vp_nar .boolean 1), upd ks j a, upd gs j b, upd vs j v, c)) → wY_add_44 post a b v t ks gs vs c (d + 1) (nI i) := by
  intro d
  induction d with
  | zero =>
    intro i h hn _
    have e : i = 14 := by omega
    subst e
    exact br_t (by decide) (hn rfl)
  | succ d ih =>
    intro i h hn hs
    have hi : i < 14 := by omega
    have vi : vp_in (nI i) 14 := vp_in_nI hi (by decide)
    have e : (nI i).toNatClampNeg = i := nI_clamp (by omega)
    refine br_f (rc_l14 hi) ⟨vi, ?_⟩
    by_cases h1 : t i = 0
    · exact br_t (by rw [e]; exact h1) ⟨vi, nm_r (congrArg (fun m => upd t m (vp_nar .boolean 1)) e) ⟨vi, nm_r (congrArg (fun m => upd ks m a) e) ⟨vi, nm_r (congrArg (fun m => upd gs m b) e) ⟨vi, nm_r (congrArg (fun m => upd vs m v) e) (hs i (by simp [rr_s, h1]))⟩⟩⟩⟩
    · exact br_f (by rw [e]; exact h1) (nm_r (nI_1 i) (ih _ (by omega) (fun q => hn (by simp [rr_s, h1, q])) (fun j q => hs j (by simp [rr_s, h1, q]))))
/-- row j is taken -/
def rs_k (t : Nat → Int32) (j : Nat) : Bool := !decide (t j = 0)
theorem sX_rowCount (post : Int32 → Prop) (t ks gs vs c : Nat → Int32) (hp : post (nI (rc_cn (rs_k t) 14))) : wpX_rowCount post (t, ks, gs, vs, c) := by
  refine loop_0 (fun n i s => wX_rowCount_4 post t ks gs vs c n s (nI i)) (fun i s => s = nI (rc_cn (rs_k t) i)) 14 0 rfl ?_ ?_
  · intro n s h
    subst h
    exact br_t (by decide) hp
  · intro n i s hi h ih
    subst h
    have e : (nI i).toNatClampNeg = i := nI_clamp (by omega)
    refine br_f (rc_l14 hi) ⟨vp_in_nI hi (by decide), ?_⟩
    by_cases h1 : t i = 0
    · exact br_t (by rw [e]; exact h1) (nm_r (nI_1 i) (ih _ (congrArg nI (rc_f (by simp [rs_k, h1])).symm)))
    · exact br_f (by rw [e]; exact h1) (nm_r (nI_1 _) (nm_r (nI_1 i) (ih _ (congrArg nI (rc_t (by simp [rs_k, h1])).symm))))
theorem sY_rem33 (post : Int32 → SY → Prop) (t ks gs vs c : Nat → Int32) (hp : post (nI (rc_cn (rs_k t) 14)) (t, ks, gs, vs, c)) : ∃ n, wY_remove_33 post t ks gs vs c n 0 0 := by
  refine loop_0 (fun n i s => wY_remove_33 post t ks gs vs c n s (nI i)) (fun i s => s = nI (rc_cn (rs_k t) i)) 14 0 rfl ?_ ?_
  · intro n s h
    subst h
    exact br_t (by decide) hp
  · intro n i s hi h ih
    subst h
    have e : (nI i).toNatClampNeg = i := nI_clamp (by omega)
    refine br_f (rc_l14 hi) ⟨vp_in_nI hi (by decide), ?_⟩
    by_cases h1 : t i = 0
    · exact br_t (by rw [e]; exact h1) (nm_r (nI_1 i) (ih _ (congrArg nI (rc_f (by simp [rs_k, h1])).symm)))
    · exact br_f (by rw [e]; exact h1) (nm_r (nI_1 _) (nm_r (nI_1 i) (ih _ (congrArg nI (rc_t (by simp [rs_k, h1])).symm))))
/-- below 0, at least n, or one of 0 .. n - 1 -/
theorem rs_ix (x : Int32) {n : Nat} (hn : n < 2 ^ 31) : x < 0 ∨ (¬ x < 0 ∧ nI n ≤ x) ∨ ∃ j : Nat, j < n ∧ x = nI j := by
  by_cases h : x < 0
  · exact Or.inl h
  · obtain ⟨j, hj, rfl⟩ := nI_of h
    by_cases h2 : j < n
    · exact Or.inr (Or.inr ⟨j, h2, rfl⟩)
    · exact Or.inr (Or.inl ⟨h, nI_le (by omega) hj⟩)
theorem rs_no {x : Int32} (m n : Nat) (h : nI n ≤ x) (hm : m < n) (hn : n < 2 ^ 31) : ¬ x ≤ nI m := fun q => nI_ge hm hn (Int32.le_trans h q)
theorem sX_grp (post : Int32 → Prop) {g : Nat} (hg : g < 8) (h : post 1) : wpX_isGroup post (nI g) := br_f (nI_pos (by omega)) (br_f (rc_l8 hg) h)
theorem sX_bad (post : Int32 → Prop) {x : Int32} (hx : x < 0 ∨ (¬ x < 0 ∧ nI 8 ≤ x)) (h : post 0) : wpX_isGroup post x := by
  rcases hx with a | ⟨a, b⟩
  · exact br_t a h
  · exact br_f a (br_t b h)
theorem sY_grp (post : Int32 → Prop) (u : SY) {g : Nat} (hg : g < 8) (h : post 0) : wpY_bad post u (nI g) := br_f (nI_pos (by omega)) (br_t (nI_le (b := 7) (by omega) (by decide)) h)
theorem sY_bad (post : Int32 → Prop) (u : SY) {x : Int32} (hx : x < 0 ∨ (¬ x < 0 ∧ nI 8 ≤ x)) (h : post 1) : wpY_bad post u x := by
  rcases hx with a | ⟨a, b⟩
  · exact br_t a h
  · exact br_f a (br_f (rs_no 7 8 b (by decide) (by decide)) h)
theorem rs_m1 {g : Nat} (h : g < 8) : ¬ nI g = -1 := by
  intro e
  exact nI_pos (n := g) (by omega) (by rw [e]; decide)
theorem rs_upd {gs vs : Nat → Int32} (K : rm_ok gs vs) (j g : Nat) (hg : g < 8) (v : Int32) (h1 : ¬ v < -1000) (h2 : v ≤ 1000) : rm_ok (upd gs j (nI g)) (upd vs j v) := by
  intro m hm
  by_cases e : m = j
  · subst e
    rw [pk_us, pk_us]
    have a := Int32.le_iff_toInt_le.mp (Int32.not_lt.mp h1)
    have b := Int32.le_iff_toInt_le.mp h2
    rw [show (-1000 : Int32).toInt = -1000 by decide] at a
    rw [show (1000 : Int32).toInt = 1000 by decide] at b
    exact ⟨⟨g, hg, rfl⟩, a, b⟩
  · rw [pk_un e, pk_un e]
    exact K m hm
end
section
/-! part 11: the owed statements. The two states are the same; every id's group and value is within -/
def i_Rel (k : Nat) (u : SX) (v : SY) : Prop := u = v ∧ rm_ok u.2.2.1 u.2.2.2.1
theorem i_up {k : Nat} {u : SX} {v : SY} (h : i_Rel k u v) : i_Rel (k + 4) u v := h
theorem i_vc0 : wpX_init (fun u => wpY_init (fun v => i_Rel 0 u v)) := ⟨rfl, fun _ _ => ⟨⟨0, by decide, rfl⟩, show -1000 ≤ (0 : Int32).toInt by decide, show (0 : Int32).toInt ≤ 1000 by decide⟩⟩
theorem i_vc_add {k : Nat} {u : SX} {v : SY} (I : i_Rel k u v) (hk : k + 4 ≤ 2048) (v1 : Int32) (v2 : Int32) (v3 : Int32) : wpX_add (fun r u' => wpY_add (fun r' v' => r' = r ∧ i_Rel (k + 4) u' v') v v1 v2 v3) u v1 v2 v3 := by
  obtain ⟨E, K⟩ := I
  subst E
  obtain ⟨t, ks, gs, vs, c⟩ := u
  rcases rs_ix v1 (n := 6) (by decide) with a | ⟨a, b⟩ | ⟨x, hx, rfl⟩
  · exact br_t a (br_t a ⟨rfl, rfl, K⟩)
  · exact br_f a (br_f (Int32.not_lt.mpr b) (br_f a (br_f (rs_no 5 6 b (by decide) (by decide)) ⟨rfl, rfl, K⟩)))
  · have a : ¬ nI x < 0 := nI_pos (by omega)
    have a6 : nI x < 6 := nI_lt (b := 6) hx (by decide)
    have a5 : nI x ≤ 5 := nI_le (b := 5) (by omega) (by decide)
    rcases rs_ix v2 (n := 8) (by decide) with b | ⟨b, b2⟩ | ⟨g, hg, rfl⟩
    · exact br_f a (br_t a6 (sX_bad _ (Or.inl b) (br_t rfl (br_f a (br_t a5 (br_t b ⟨rfl, rfl, K⟩))))))
    · exact br_f a (br_t a6 (sX_bad _ (Or.inr ⟨b, b2⟩) (br_t rfl (br_f a (br_t a5 (br_f b (br_f (rs_no 7 8 b2 (by decide) (by decide)) ⟨rfl, rfl, K⟩)))))))
    · have b : ¬ nI g < 0 := nI_pos (by omega)
      have b7 : nI g ≤ 7 := nI_le (b := 7) (by omega) (by decide)
      refine br_f a (br_t a6 (sX_grp _ hg (br_f (by decide) ?_)))
      by_cases l : v3 < -1000
      · exact br_t l (br_f a (br_t a5 (br_f b (br_t b7 (br_t l ⟨rfl, rfl, K⟩)))))
      · refine br_f l ?_
        by_cases m : v3 ≤ 1000
        · refine br_t m (sX_free _ t ks gs vs c (fun q => ?_) (fun j q => ?_))
          · exact br_t rfl (br_f a (br_t a5 (br_f b (br_t b7 (br_f l (br_t m ⟨15, sY_add44 _ _ _ _ t ks gs vs c 14 0 rfl (fun _ => ⟨rfl, rfl, K⟩) (fun j z => by rw [q] at z; cases z)⟩))))))
          · have hj : j < 14 := by have := rr_s_lt t 14 0 j q; omega
            have vj : vp_in (nI j) 14 := vp_in_nI hj (by decide)
            have e : (nI j).toNatClampNeg = j := nI_clamp (by omega)
            have nj : ¬ nI j = -1 := by
              intro z
              exact nI_pos (n := j) (by omega) (by rw [z]; decide)
            refine br_f nj ⟨vj, nm_r (congrArg (fun m => upd t m (vp_nar .boolean 1)) e) ⟨vj, nm_r (congrArg (fun m => upd ks m (nI x)) e) ⟨vj, nm_r (congrArg (fun m => upd gs m (nI g)) e) ⟨vj, nm_r (congrArg (fun m => upd vs m v3) e) ?_⟩⟩⟩⟩
            refine br_f a (br_t a5 (br_f b (br_t b7 (br_f l (br_t m ⟨15, sY_add44 _ _ _ _ t ks gs vs c 14 0 rfl (fun z => by rw [q] at z; cases z) (fun i z => ?_)⟩)))))
            have ij : i = j := Option.some.inj (z.symm.trans q)
            subst ij
            exact ⟨rfl, rfl, rs_upd K i g hg v3 l m⟩
        · exact br_f m (br_f a (br_t a5 (br_f b (br_t b7 (br_f l (br_f m ⟨rfl, rfl, K⟩))))))
theorem i_vc_remove {k : Nat} {u : SX} {v : SY} (I : i_Rel k u v) (hk : k + 4 ≤ 2048) (v1 : Int32) : wpX_remove (fun r u' => wpY_remove (fun r' v' => r' = r ∧ i_Rel (k + 4) u' v') v v1) u v1 := by
  obtain ⟨E, K⟩ := I
  subst E
  obtain ⟨t, ks, gs, vs, c⟩ := u
  rcases rs_ix v1 (n := 14) (by decide) with a | ⟨a, b⟩ | ⟨x, hx, rfl⟩
  · exact br_t a (br_t a ⟨rfl, rfl, K⟩)
  · exact br_f a (br_t b (br_f a (br_t (Int32.not_le.mp (rs_no 13 14 b (by decide) (by decide))) ⟨rfl, rfl, K⟩)))
  · have a : ¬ nI x < 0 := nI_pos (by omega)
    have b : ¬ 13 < nI x := Int32.not_lt.mpr (nI_le (b := 13) (by omega) (by decide))
    have vx : vp_in (nI x) 14 := vp_in_nI hx (by decide)
    by_cases z : t (nI x).toNatClampNeg = 0
    · exact br_f a (br_f (rc_l14 hx) ⟨vx, br_t z (br_f a (br_f b ⟨vx, br_t z ⟨rfl, rfl, K⟩⟩))⟩)
    · exact br_f a (br_f (rc_l14 hx) ⟨vx, br_f z ⟨vx, nm_e (sX_rowCount _ _ ks gs vs c (br_f a (br_f b ⟨vx, br_f z ⟨vx, nm_e (sY_rem33 _ _ ks gs vs c ⟨rfl, rfl, K⟩)⟩⟩)))⟩⟩)
theorem i_vc_repairs {k : Nat} {u : SX} {v : SY} (I : i_Rel k u v) (hk : k + 4 ≤ 2048) : wpX_repairs (fun r => wpY_repairs (fun r' => r' = r ∧ i_Rel (k + 4) u v) v) u := by
  obtain ⟨E, K⟩ := I
  subst E
  obtain ⟨t, ks, gs, vs, c⟩ := u
  exact rX_repairs _ t ks gs vs c (rY_repairs _ t ks gs vs c ⟨rfl, rfl, K⟩)
theorem i_vc_countLeast {k : Nat} {u : SX} {v : SY} (I : i_Rel k u v) (hk : k + 4 ≤ 2048) (v1 : Int32) : wpX_countLeast (fun r u' => wpY_countLeast (fun r' v' => r' = r ∧ i_Rel (k + 4) u' v') v v1) u v1 := by
  obtain ⟨E, K⟩ := I
  subst E
  obtain ⟨t, ks, gs, vs, c⟩ := u
  unfold wpX_countLeast wpY_countLeast
  dsimp only
  rcases rs_ix v1 (n := 8) (by decide) with a | a | ⟨g, hg, rfl⟩
  · exact sX_bad _ (Or.inl a) (br_t rfl (sY_bad _ _ (Or.inl a) (br_f (by decide) ⟨rfl, rfl, K⟩)))
  · exact sX_bad _ (Or.inr a) (br_t rfl (sY_bad _ _ (Or.inr a) (br_f (by decide) ⟨rfl, rfl, K⟩)))
  · have B := rq_0 t ks gs vs (nI g) (rs_m1 hg)
    exact sX_grp _ hg (br_f (by decide) (qX_least _ B c (sY_grp _ _ hg (br_t rfl (qY_least _ B (fun c _ => rm_le_cn _) c ⟨rfl, rfl, K⟩)))))
theorem i_vc_countMost {k : Nat} {u : SX} {v : SY} (I : i_Rel k u v) (hk : k + 4 ≤ 2048) (v1 : Int32) : wpX_countMost (fun r u' => wpY_countMost (fun r' v' => r' = r ∧ i_Rel (k + 4) u' v') v v1) u v1 := by
  obtain ⟨E, K⟩ := I
  subst E
  obtain ⟨t, ks, gs, vs, c⟩ := u
  unfold wpX_countMost wpY_countMost
  dsimp only
  rcases rs_ix v1 (n := 8) (by decide) with a | a | ⟨g, hg, rfl⟩
  · exact sX_bad _ (Or.inl a) (br_t rfl (sY_bad _ _ (Or.inl a) (br_f (by decide) ⟨rfl, rfl, K⟩)))
  · exact sX_bad _ (Or.inr a) (br_t rfl (sY_bad _ _ (Or.inr a) (br_f (by decide) ⟨rfl, rfl, K⟩)))
  · have B := rq_0 t ks gs vs (nI g) (rs_m1 hg)
    exact sX_grp _ hg (br_f (by decide) (qX_most _ B c (sY_grp _ _ hg (br_t rfl (qY_most _ B c ⟨rfl, rfl, K⟩)))))
theorem i_vc_sumLeast {k : Nat} {u : SX} {v : SY} (I : i_Rel k u v) (hk : k + 4 ≤ 2048) (v1 : Int32) : wpX_sumLeast (fun r u' => wpY_sumLeast (fun r' v' => r' = r ∧ i_Rel (k + 4) u' v') v v1) u v1 := by
  obtain ⟨E, K⟩ := I
  subst E
  obtain ⟨t, ks, gs, vs, c⟩ := u
  unfold wpX_sumLeast wpY_sumLeast
  dsimp only
  rcases rs_ix v1 (n := 8) (by decide) with a | a | ⟨g, hg, rfl⟩
  · exact sX_bad _ (Or.inl a) (br_t rfl (sY_bad _ _ (Or.inl a) (br_f (by decide) ⟨rfl, rfl, K⟩)))
  · exact sX_bad _ (Or.inr a) (br_t rfl (sY_bad _ _ (Or.inr a) (br_f (by decide) ⟨rfl, rfl, K⟩)))
  · have B := rq_1 t ks gs vs (nI g) (rs_m1 hg)
    exact sX_grp _ hg (br_f (by decide) (qX_least _ B c (sY_grp _ _ hg (br_t rfl (qY_least _ B (fun c H => rm_le_s K H _) c ⟨rfl, rfl, K⟩)))))
theorem i_vc_sumMost {k : Nat} {u : SX} {v : SY} (I : i_Rel k u v) (hk : k + 4 ≤ 2048) (v1 : Int32) : wpX_sumMost (fun r u' => wpY_sumMost (fun r' v' => r' = r ∧ i_Rel (k + 4) u' v') v v1) u v1 := by
  obtain ⟨E, K⟩ := I
  subst E
  obtain ⟨t, ks, gs, vs, c⟩ := u
  unfold wpX_sumMost wpY_sumMost
  dsimp only
  rcases rs_ix v1 (n := 8) (by decide) with a | a | ⟨g, hg, rfl⟩
  · exact sX_bad _ (Or.inl a) (br_t rfl (sY_bad _ _ (Or.inl a) (br_f (by decide) ⟨rfl, rfl, K⟩)))
  · exact sX_bad _ (Or.inr a) (br_t rfl (sY_bad _ _ (Or.inr a) (br_f (by decide) ⟨rfl, rfl, K⟩)))
  · have B := rq_1 t ks gs vs (nI g) (rs_m1 hg)
    exact sX_grp _ hg (br_f (by decide) (qX_most _ B c (sY_grp _ _ hg (br_t rfl (qY_most _ B c ⟨rfl, rfl, K⟩)))))
theorem i_vc_groupsLeast {k : Nat} {u : SX} {v : SY} (I : i_Rel k u v) (hk : k + 4 ≤ 2048) : wpX_groupsLeast (fun r u' => wpY_groupsLeast (fun r' v' => r' = r ∧ i_Rel (k + 4) u' v') v) u := by
  obtain ⟨E, K⟩ := I
  subst E
  obtain ⟨t, ks, gs, vs, c⟩ := u
  unfold wpX_groupsLeast wpY_groupsLeast
  dsimp only
  have B := rq_2 t ks gs vs
  exact qX_least _ B c (qY_least _ B (fun c _ => rm_le_d _) c ⟨rfl, rfl, K⟩)
theorem i_vc_groupsMost {k : Nat} {u : SX} {v : SY} (I : i_Rel k u v) (hk : k + 4 ≤ 2048) : wpX_groupsMost (fun r u' => wpY_groupsMost (fun r' v' => r' = r ∧ i_Rel (k + 4) u' v') v) u := by
  obtain ⟨E, K⟩ := I
  subst E
  obtain ⟨t, ks, gs, vs, c⟩ := u
  unfold wpX_groupsMost wpY_groupsMost
  dsimp only
  have B := rq_2 t ks gs vs
  exact qX_most _ B c (qY_most _ B c ⟨rfl, rfl, K⟩)
theorem i_vc_spreadLeast {k : Nat} {u : SX} {v : SY} (I : i_Rel k u v) (hk : k + 4 ≤ 2048) : wpX_spreadLeast (fun r u' => wpY_spreadLeast (fun r' v' => r' = r ∧ i_Rel (k + 4) u' v') v) u := by
  obtain ⟨E, K⟩ := I
  subst E
  obtain ⟨t, ks, gs, vs, c⟩ := u
  unfold wpX_spreadLeast wpY_spreadLeast
  dsimp only
  have B := rq_3 t ks gs vs K
  exact qX_least _ B c (qY_least _ B (fun c H => rm_le_sp K H) c ⟨rfl, rfl, K⟩)
theorem i_vc_middleMost {k : Nat} {u : SX} {v : SY} (I : i_Rel k u v) (hk : k + 4 ≤ 2048) : wpX_middleMost (fun r u' => wpY_middleMost (fun r' v' => r' = r ∧ i_Rel (k + 4) u' v') v) u := by
  obtain ⟨E, K⟩ := I
  subst E
  obtain ⟨t, ks, gs, vs, c⟩ := u
  unfold wpX_middleMost wpY_middleMost
  dsimp only
  have B := rq_4 t ks gs vs
  exact qX_most _ B c (qY_most _ B c ⟨rfl, rfl, K⟩)
theorem i_vc_mixedMost {k : Nat} {u : SX} {v : SY} (I : i_Rel k u v) (hk : k + 4 ≤ 2048) : wpX_mixedMost (fun r u' => wpY_mixedMost (fun r' v' => r' = r ∧ i_Rel (k + 4) u' v') v) u := by
  obtain ⟨E, K⟩ := I
  subst E
  obtain ⟨t, ks, gs, vs, c⟩ := u
  unfold wpX_mixedMost wpY_mixedMost
  dsimp only
  have B := rq_5 t ks gs vs K
  exact qX_most _ B c (qY_most _ B c ⟨rfl, rfl, K⟩)
theorem i_vc_exactly {k : Nat} {u : SX} {v : SY} (I : i_Rel k u v) (hk : k + 4 ≤ 2048) (v1 : Int32) : wpX_exactly (fun r u' => wpY_exactly (fun r' v' => r' = r ∧ i_Rel (k + 4) u' v') v v1) u v1 := by
  obtain ⟨E, K⟩ := I
  subst E
  obtain ⟨t, ks, gs, vs, c⟩ := u
  exact qX_ex _ t ks gs vs c v1 (qY_ex _ t ks gs vs c v1 ⟨rfl, rfl, K⟩)
end
