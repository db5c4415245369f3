/-! part 1: rows pasted from the kit's rows (pk_*), then the pure picture: counts, sums, the table, the chosen rows -/
theorem pk_us {f : Nat → Int32} {k : Nat} {x : Int32} : upd f k x k = x := if_pos rfl
theorem pk_un {f : Nat → Int32} {k j : Nat} {x : Int32} (h : j ≠ k) : upd f k x j = f j := if_neg h
theorem pk_sub {a b : Nat} (h : b ≤ a) : nI a - nI b = nI (a - b) := by
  obtain ⟨c, rfl⟩ : ∃ c, a = c + b := ⟨a - b, by omega⟩
  rw [← nI_add, Int32.add_sub_cancel, Nat.add_sub_cancel]
theorem pk_mul (a b : Nat) : nI a * nI b = nI (a * b) := (Int32.ofNat_mul a b).symm
theorem pk_tn {n : Nat} (h : n < 2 ^ 32) : (nI n).toBitVec.toNat = n := Nat.mod_eq_of_lt h
theorem pk_and (x : Int32) {m : Int32} (k : Nat) (hm : m.toBitVec.toNat = 2 ^ k - 1) : x &&& m = nI (x.toBitVec.toNat % 2 ^ k) := by
  apply Int32.toBitVec_inj.mp
  apply BitVec.eq_of_toNat_eq
  rw [Int32.toBitVec_and, BitVec.toNat_and, hm, Nat.and_two_pow_sub_one_eq_mod]
  show _ = (BitVec.ofNat 32 _).toNat
  rw [BitVec.toNat_ofNat]
  exact (Nat.mod_eq_of_lt (Nat.lt_of_le_of_lt (Nat.mod_le _ _) x.toBitVec.isLt)).symm
theorem pk_andE (x : Int32) {m : Int32} (k : Nat) (hm : m.toBitVec.toNat = 2 ^ k - 1) : ∃ j : Nat, j < 2 ^ k ∧ x &&& m = nI j := ⟨_, Nat.mod_lt _ (Nat.two_pow_pos k), pk_and x k hm⟩
theorem pk_least (P : Nat → Prop) (h : ∃ k, P k) : ∃ k, P k ∧ ∀ j, j < k → ¬ P j := by
  obtain ⟨k, hk⟩ := h
  induction k using Nat.strongRecOn with
  | ind k ih =>
    by_cases e : ∃ j, j < k ∧ P j
    · obtain ⟨j, hj, pj⟩ := e
      exact ih j hj pj
    · exact ⟨k, hk, fun j hj pj => e ⟨j, hj, pj⟩⟩
/-- how many of 0 .. n - 1 have p -/
def rc_cn (p : Nat → Bool) : Nat → Nat
  | 0 => 0
  | n + 1 => rc_cn p n + (if p n = true then 1 else 0)
/-- the sum of f over 0 .. n - 1, as ints add -/
def rc_sm (f : Nat → Int32) : Nat → Int32
  | 0 => 0
  | n + 1 => rc_sm f n + f n
theorem rc_t {p : Nat → Bool} {n : Nat} (h : p n = true) : rc_cn p (n + 1) = rc_cn p n + 1 := by simp [rc_cn, h]
theorem rc_f {p : Nat → Bool} {n : Nat} (h : p n = false) : rc_cn p (n + 1) = rc_cn p n := by simp [rc_cn, h]
theorem rc_le (p : Nat → Bool) : ∀ n, rc_cn p n ≤ n := by
  intro n
  induction n with
  | zero => exact Nat.le_refl 0
  | succ n ih => cases h : p n with
    | true => rw [rc_t h]; omega
    | false => rw [rc_f h]; omega
theorem rc_congr {p q : Nat → Bool} : ∀ n, (∀ j, j < n → p j = q j) → rc_cn p n = rc_cn q n := by
  intro n
  induction n with
  | zero => intro _; rfl
  | succ n ih =>
    intro h
    have e := ih (fun j hj => h j (by omega))
    have e2 := h n (by omega)
    simp only [rc_cn, e, e2]
theorem rc_zero {p : Nat → Bool} : ∀ n, rc_cn p n = 0 → ∀ j, j < n → p j = false := by
  intro n
  induction n with
  | zero => intro _ j hj; omega
  | succ n ih =>
    intro h j hj
    cases hp : p n with
    | true => rw [rc_t hp] at h; omega
    | false =>
      rw [rc_f hp] at h
      by_cases e : j = n
      · rw [e]; exact hp
      · exact ih h j (by omega)
theorem rc_none {p : Nat → Bool} : ∀ n, (∀ j, j < n → p j = false) → rc_cn p n = 0 := by
  intro n
  induction n with
  | zero => intro _; rfl
  | succ n ih => intro h; rw [rc_f (h n (by omega))]; exact ih (fun j hj => h j (by omega))
theorem rc_mono {p q : Nat → Bool} : ∀ n, (∀ j, j < n → p j = true → q j = true) → rc_cn p n ≤ rc_cn q n := by
  intro n
  induction n with
  | zero => intro _; exact Nat.le_refl 0
  | succ n ih =>
    intro h
    have e := ih (fun j hj => h j (by omega))
    cases hp : p n with
    | true => rw [rc_t hp, rc_t (h n (by omega) hp)]; omega
    | false =>
      rw [rc_f hp]
      cases hq : q n with
      | true => rw [rc_t hq]; omega
      | false => rw [rc_f hq]; omega
theorem rc_full {p q : Nat → Bool} : ∀ n, (∀ j, j < n → p j = true → q j = true) → rc_cn q n ≤ rc_cn p n → ∀ j, j < n → q j = true → p j = true := by
  intro n
  induction n with
  | zero => intro _ _ j hj; omega
  | succ n ih =>
    intro h hc j hj hq
    have hm := rc_mono n (fun j hj => h j (by omega))
    cases hp : p n with
    | true =>
      rw [rc_t hp, rc_t (h n (by omega) hp)] at hc
      by_cases e : j = n
      · rw [e]; exact hp
      · exact ih (fun j hj => h j (by omega)) (by omega) j (by omega) hq
    | false =>
      rw [rc_f hp] at hc
      cases hqn : q n with
      | true => rw [rc_t hqn] at hc; omega
      | false =>
        rw [rc_f hqn] at hc
        have e : j ≠ n := fun e => by rw [e, hqn] at hq; cases hq
        exact ih (fun j hj => h j (by omega)) hc j (by omega) hq
theorem rc_but {q : Nat → Bool} {k : Nat} (hk : q k = true) : ∀ n, k < n → rc_cn (fun j => q j && decide (j ≠ k)) n + 1 = rc_cn q n := by
  intro n
  induction n with
  | zero => intro h; omega
  | succ n ih =>
    intro h
    by_cases e : n = k
    · have h1 : (fun j => q j && decide (j ≠ k)) n = false := by simp [e]
      rw [rc_f h1, rc_t (by rw [e]; exact hk)]
      congr 1
      exact rc_congr n (fun j hj => by
        have : j ≠ k := by omega
        simp [this])
    · have hh := ih (by omega)
      cases hq : q n with
      | true =>
        have h1 : (fun j => q j && decide (j ≠ k)) n = true := by simp [hq, e]
        rw [rc_t h1, rc_t hq]; omega
      | false =>
        have h1 : (fun j => q j && decide (j ≠ k)) n = false := by simp [hq]
        rw [rc_f h1, rc_f hq]; omega
theorem rc_smC {f g : Nat → Int32} : ∀ n, (∀ j, j < n → f j = g j) → rc_sm f n = rc_sm g n := by
  intro n
  induction n with
  | zero => intro _; rfl
  | succ n ih =>
    intro h
    have e := ih (fun j hj => h j (by omega))
    have e2 := h n (by omega)
    simp only [rc_sm, e, e2]
theorem rc_sm0 : ∀ n, rc_sm (fun _ => 0) n = 0 := by
  intro n
  induction n with
  | zero => rfl
  | succ n ih => simp only [rc_sm, ih]; rfl
theorem rc_smA (f g : Nat → Int32) : ∀ n, rc_sm (fun j => f j + g j) n = rc_sm f n + rc_sm g n := by
  intro n
  induction n with
  | zero => rfl
  | succ n ih =>
    simp only [rc_sm, ih]
    generalize rc_sm f n = a
    generalize rc_sm g n = b
    generalize f n = c
    generalize g n = d
    grind
theorem rc_swap (f : Nat → Nat → Int32) (m : Nat) : ∀ n, rc_sm (fun g => rc_sm (fun k => f g k) m) n = rc_sm (fun k => rc_sm (fun g => f g k) n) m := by
  intro n
  induction n with
  | zero => exact (rc_sm0 m).symm
  | succ n ih =>
    show rc_sm (fun g => rc_sm (fun k => f g k) m) n + rc_sm (fun k => f n k) m = rc_sm (fun k => rc_sm (fun g => f g k) n + f n k) m
    rw [rc_smA, ih]
/-- of 0 .. n - 1 only a counts -/
theorem rc_only (v : Int32) (a : Nat) : ∀ n, rc_sm (fun g => if a = g then v else 0) n = if a < n then v else 0 := by
  intro n
  induction n with
  | zero => rfl
  | succ n ih =>
    show rc_sm (fun g => if a = g then v else 0) n + (if a = n then v else 0) = _
    rw [ih]
    by_cases h : a = n
    · rw [if_neg (by omega), if_pos h, if_pos (by omega)]; exact Int32.zero_add v
    · rw [if_neg h]
      by_cases h2 : a < n
      · rw [if_pos h2, if_pos (by omega)]; exact Int32.add_zero v
      · rw [if_neg h2, if_neg (by omega)]; rfl
theorem rc_smN {f : Nat → Int32} {b : Nat} : ∀ n, (∀ j, j < n → ∃ m, m ≤ b ∧ f j = nI m) → ∃ m, m ≤ n * b ∧ rc_sm f n = nI m := by
  intro n
  induction n with
  | zero => intro _; exact ⟨0, by omega, rfl⟩
  | succ n ih =>
    intro h
    obtain ⟨m, hm, e⟩ := ih (fun j hj => h j (by omega))
    obtain ⟨m2, hm2, e2⟩ := h n (by omega)
    refine ⟨m + m2, ?_, ?_⟩
    · rw [Nat.succ_mul]; omega
    · show rc_sm f n + f n = _
      rw [e, e2, nI_add]
theorem rc_smB {f : Nat → Int32} : ∀ n, n ≤ 100 → (∀ j, j < n → -1000 ≤ (f j).toInt ∧ (f j).toInt ≤ 1000) → -1000 * (n : Int) ≤ (rc_sm f n).toInt ∧ (rc_sm f n).toInt ≤ 1000 * (n : Int) := by
  intro n
  induction n with
  | zero =>
    intro _ _
    show -1000 * ((0 : Nat) : Int) ≤ (0 : Int32).toInt ∧ (0 : Int32).toInt ≤ 1000 * ((0 : Nat) : Int)
    decide
  | succ n ih =>
    intro hn h
    have e := ih (by omega) (fun j hj => h j (by omega))
    have e2 := h n (by omega)
    have e3 : (rc_sm f (n + 1)).toInt = (rc_sm f n).toInt + (f n).toInt := by
      show (rc_sm f n + f n).toInt = _
      rw [Int32.toInt_add]
      exact Int.bmod_eq_of_le (by omega) (by omega)
    rw [e3]
    omega
theorem rc_l14 {i : Nat} (h : i < 14) : ¬ (14 : Int32) ≤ nI i := nI_ge (b := 14) h (by decide)
theorem rc_l6 {i : Nat} (h : i < 6) : ¬ (6 : Int32) ≤ nI i := nI_ge (b := 6) h (by decide)
theorem rc_l8 {i : Nat} (h : i < 8) : ¬ (8 : Int32) ≤ nI i := nI_ge (b := 8) h (by decide)
