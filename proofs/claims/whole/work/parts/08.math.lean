/-! part 8: what the two sides' measures have in common: least and greatest value by places, the sum by groups, bounds -/
/-- of every id: its group is 0 .. 7, its value -1000 .. 1000 -/
def rm_ok (gs vs : Nat → Int32) : Prop := ∀ j, j < 14 → (∃ g, g < 8 ∧ gs j = nI g) ∧ -1000 ≤ (vs j).toInt ∧ (vs j).toInt ≤ 1000
theorem rm_at {gs vs c : Nat → Int32} (K : rm_ok gs vs) (H : rr_okc c) {j : Nat} (hj : j < 6) (h : rm_R c j = true) : (∃ g, g < 8 ∧ rm_G gs c j = nI g) ∧ -1000 ≤ (rm_V vs c j).toInt ∧ (rm_V vs c j).toInt ≤ 1000 := by
  obtain ⟨m, hm, e⟩ := vp_in_of (H j hj (rm_Rn h)) (by decide)
  have e2 : (c j).toNatClampNeg = m := by rw [e]; exact nI_clamp (by omega)
  unfold rm_G rm_V
  rw [e2]
  exact K m hm
theorem rm_fu (vs c : Nat → Int32) (tg w : Int32) : ∀ d i, (∀ k, i ≤ k → k < i + d → rm_R c k = true → nI (rc_cn (rm_b vs c k) 6) = tg → rm_V vs c k = w) → (∃ k, i ≤ k ∧ k < i + d ∧ rm_R c k = true ∧ nI (rc_cn (rm_b vs c k) 6) = tg) → rm_f vs c tg d i = w := by
  intro d
  induction d with
  | zero => intro i _ ⟨k, h1, h2, _⟩; omega
  | succ d ih =>
    intro i hu ⟨k, h1, h2, h3, h4⟩
    simp only [rm_f]
    split
    · rename_i q
      exact hu i (by omega) (by omega) q.1 q.2
    · rename_i q
      have hk : k ≠ i := fun e => q (by rw [← e]; exact ⟨h3, h4⟩)
      exact ih (i + 1) (fun k a b => hu k (by omega) (by omega)) ⟨k, by omega, by omega, h3, h4⟩
theorem rm_fn (vs c : Nat → Int32) (tg : Int32) : ∀ d i, (∀ k, i ≤ k → k < i + d → rm_R c k = false) → rm_f vs c tg d i = 1000000 := by
  intro d
  induction d with
  | zero => intro i _; rfl
  | succ d ih =>
    intro i h
    have h0 := h i (by omega) (by omega)
    simp only [rm_f, h0]
    exact ih (i + 1) (fun k a b => h k (by omega) (by omega))
theorem rm_lo_le (vs c : Nat → Int32) : ∀ n j, j < n → rm_R c j = true → rm_lo vs c n ≤ rm_V vs c j := by
  intro n
  induction n with
  | zero => intro j h; omega
  | succ n ih =>
    intro j h hR
    simp only [rm_lo]
    by_cases e : j = n
    · subst e
      rw [if_pos hR]
      split
      · assumption
      · exact Int32.le_refl _
    · have q := ih j (by omega) hR
      split
      · split
        · exact q
        · rename_i z
          exact Int32.le_trans (Int32.le_of_lt (Int32.not_le.mp z)) q
      · exact q
theorem rm_lo_in (vs c : Nat → Int32) : ∀ n, rm_lo vs c n = 1000000 ∨ ∃ j, j < n ∧ rm_R c j = true ∧ rm_lo vs c n = rm_V vs c j := by
  intro n
  induction n with
  | zero => exact Or.inl rfl
  | succ n ih =>
    have q : rm_lo vs c n = 1000000 ∨ ∃ j, j < n + 1 ∧ rm_R c j = true ∧ rm_lo vs c n = rm_V vs c j := by
      rcases ih with h | ⟨j, a, b, e⟩
      · exact Or.inl h
      · exact Or.inr ⟨j, by omega, b, e⟩
    simp only [rm_lo]
    split
    · split
      · exact q
      · rename_i hR _
        exact Or.inr ⟨n, by omega, hR, rfl⟩
    · exact q
theorem rm_hi_le (vs c : Nat → Int32) : ∀ n j, j < n → rm_R c j = true → rm_V vs c j ≤ rm_hi vs c n := by
  intro n
  induction n with
  | zero => intro j h; omega
  | succ n ih =>
    intro j h hR
    simp only [rm_hi]
    by_cases e : j = n
    · subst e
      rw [if_pos hR]
      split
      · assumption
      · exact Int32.le_refl _
    · have q := ih j (by omega) hR
      split
      · split
        · exact q
        · rename_i z
          exact Int32.le_trans q (Int32.le_of_lt (Int32.not_le.mp z))
      · exact q
theorem rm_hi_in (vs c : Nat → Int32) : ∀ n, rm_hi vs c n = -1000000 ∨ ∃ j, j < n ∧ rm_R c j = true ∧ rm_hi vs c n = rm_V vs c j := by
  intro n
  induction n with
  | zero => exact Or.inl rfl
  | succ n ih =>
    have q : rm_hi vs c n = -1000000 ∨ ∃ j, j < n + 1 ∧ rm_R c j = true ∧ rm_hi vs c n = rm_V vs c j := by
      rcases ih with h | ⟨j, a, b, e⟩
      · exact Or.inl h
      · exact Or.inr ⟨j, by omega, b, e⟩
    simp only [rm_hi]
    split
    · split
      · exact q
      · rename_i hR _
        exact Or.inr ⟨n, by omega, hR, rfl⟩
    · exact q
theorem rm_big : (1000000 : Int32).toInt = 1000000 := by decide
theorem rm_sml : (-1000000 : Int32).toInt = -1000000 := by decide
theorem rm_lo0 {vs c : Nat → Int32} : rc_cn (rm_R c) 6 = 0 → rm_lo vs c 6 = 1000000 := by
  intro h
  rcases rm_lo_in vs c 6 with e | ⟨j, hj, hR, _⟩
  · exact e
  · rw [rc_zero 6 h j hj] at hR; cases hR
theorem rm_row {c : Nat → Int32} (h : rc_cn (rm_R c) 6 ≠ 0) : ∃ j, j < 6 ∧ rm_R c j = true := by
  apply Classical.byContradiction
  intro n
  apply h
  refine rc_none 6 (fun j hj => ?_)
  cases e : rm_R c j with
  | true => exact absurd ⟨j, hj, e⟩ n
  | false => rfl
theorem rm_lo1 {gs vs c : Nat → Int32} (K : rm_ok gs vs) (H : rr_okc c) (h : rc_cn (rm_R c) 6 ≠ 0) : ¬ rm_lo vs c 6 = 1000000 ∧ ∃ j, j < 6 ∧ rm_R c j = true ∧ rm_lo vs c 6 = rm_V vs c j := by
  obtain ⟨j, hj, hR⟩ := rm_row h
  have a := Int32.le_iff_toInt_le.mp (rm_lo_le vs c 6 j hj hR)
  have b := (rm_at K H hj hR).2.2
  have n : ¬ rm_lo vs c 6 = 1000000 := by
    intro e
    rw [e, rm_big] at a
    omega
  exact ⟨n, (rm_lo_in vs c 6).resolve_left n⟩
theorem rm_hi1 {gs vs c : Nat → Int32} (K : rm_ok gs vs) (H : rr_okc c) (h : rc_cn (rm_R c) 6 ≠ 0) : ∃ j, j < 6 ∧ rm_R c j = true ∧ rm_hi vs c 6 = rm_V vs c j := by
  obtain ⟨j, hj, hR⟩ := rm_row h
  have a := Int32.le_iff_toInt_le.mp (rm_hi_le vs c 6 j hj hR)
  have b := (rm_at K H hj hR).2.1
  have n : ¬ rm_hi vs c 6 = -1000000 := by
    intro e
    rw [e, rm_sml] at a
    omega
  exact (rm_hi_in vs c 6).resolve_left n
/-- the value at place 0 is the least -/
theorem rm_p0 {gs vs c : Nat → Int32} (K : rm_ok gs vs) (H : rr_okc c) (h : rc_cn (rm_R c) 6 ≠ 0) : rm_f vs c 0 6 0 = rm_lo vs c 6 := by
  obtain ⟨a, ha, hRa, ea⟩ := (rm_lo1 K H h).2
  refine rm_fu vs c 0 _ 6 0 (fun k _ hk hR q => ?_) ?_
  · have r0 : rc_cn (rm_b vs c k) 6 = 0 := by
      have := rc_le (rm_b vs c k) 6
      exact (nI_eq (b := 0) (by omega) (by decide)).mp q
    have z := rc_zero 6 r0 a ha
    have l : ¬ rm_V vs c a < rm_V vs c k := by
      intro l
      simp [rm_b, hRa, l] at z
    rw [ea]
    refine Int32.le_antisymm (Int32.not_lt.mp l) ?_
    rw [← ea]
    exact rm_lo_le vs c 6 k (by omega) hR
  · obtain ⟨k, ⟨hk, hR, e⟩, hl⟩ := pk_least (fun k => k < 6 ∧ rm_R c k = true ∧ rm_V vs c k = rm_lo vs c 6) ⟨a, ha, hRa, ea.symm⟩
    refine ⟨k, by omega, by omega, hR, ?_⟩
    have r0 : rc_cn (rm_b vs c k) 6 = 0 := by
      refine rc_none 6 (fun j hj => ?_)
      cases hRj : rm_R c j with
      | false => simp [rm_b, hRj]
      | true =>
        have l : ¬ rm_V vs c j < rm_V vs c k := by
          rw [e]
          exact Int32.not_lt.mpr (rm_lo_le vs c 6 j hj hRj)
        by_cases o : rm_V vs c j = rm_V vs c k
        · have o2 : ¬ j < k := fun o2 => hl j o2 ⟨hj, hRj, o.trans e⟩
          simp [rm_b, l, o2]
        · simp [rm_b, l, o]
    rw [r0]
    rfl
/-- the value at the last place is the greatest -/
theorem rm_p1 {gs vs c : Nat → Int32} (K : rm_ok gs vs) (H : rr_okc c) (h : rc_cn (rm_R c) 6 ≠ 0) : rm_f vs c (nI (rc_cn (rm_R c) 6) - 1) 6 0 = rm_hi vs c 6 := by
  obtain ⟨a, ha, hRa, ea⟩ := rm_hi1 K H h
  have hl := rc_le (rm_R c) 6
  have hs : nI (rc_cn (rm_R c) 6) - 1 = nI (rc_cn (rm_R c) 6 - 1) := pk_sub (b := 1) (by omega)
  rw [hs]
  refine rm_fu vs c _ _ 6 0 (fun k _ hk hR q => ?_) ?_
  · have r0 : rc_cn (rm_b vs c k) 6 = rc_cn (rm_R c) 6 - 1 := by
      have := rc_le (rm_b vs c k) 6
      exact (nI_eq (by omega) (by omega)).mp q
    have r1 := rc_but hR 6 (by omega)
    have full := rc_full (p := rm_b vs c k) (q := fun j => rm_R c j && decide (j ≠ k)) 6 (fun j hj hb => by
      have hRj : rm_R c j = true := by
        unfold rm_b at hb
        exact (Bool.and_eq_true _ _ ▸ hb).1
      have jk : j ≠ k := by
        intro e
        subst e
        simp [rm_b, Int32.lt_irrefl] at hb
      simp [hRj, jk]) (by omega)
    have up : rm_V vs c a ≤ rm_V vs c k := by
      by_cases e : a = k
      · rw [e]; exact Int32.le_refl _
      · have b := full a ha (by simp [hRa, e])
        unfold rm_b at b
        simp only [hRa, Bool.true_and, Bool.or_eq_true, Bool.and_eq_true, decide_eq_true_eq] at b
        rcases b with b | ⟨b, _⟩
        · exact Int32.le_of_lt b
        · rw [b]; exact Int32.le_refl _
    rw [ea]
    refine Int32.le_antisymm ?_ up
    rw [← ea]
    exact rm_hi_le vs c 6 k (by omega) hR
  · obtain ⟨m, ⟨hm, hR, e⟩, hg⟩ := pk_least (fun m => m < 6 ∧ rm_R c (5 - m) = true ∧ rm_V vs c (5 - m) = rm_hi vs c 6) ⟨5 - a, by omega, by rw [show 5 - (5 - a) = a by omega]; exact ⟨hRa, ea.symm⟩⟩
    obtain ⟨k, hk⟩ : ∃ k, k = 5 - m := ⟨_, rfl⟩
    rw [← hk] at hR e
    refine ⟨k, by omega, by omega, hR, congrArg nI ?_⟩
    have r1 := rc_but hR 6 (by omega)
    have r2 : rc_cn (rm_b vs c k) 6 = rc_cn (fun j => rm_R c j && decide (j ≠ k)) 6 := by
      refine rc_congr 6 (fun j hj => ?_)
      cases hRj : rm_R c j with
      | false => simp [rm_b, hRj]
      | true =>
        by_cases jk : j = k
        · subst jk
          simp [rm_b, Int32.lt_irrefl]
        · have u : rm_V vs c j ≤ rm_V vs c k := by rw [e]; exact rm_hi_le vs c 6 j hj hRj
          by_cases l : rm_V vs c j < rm_V vs c k
          · simp [rm_b, hRj, l, jk]
          · have q : rm_V vs c j = rm_V vs c k := Int32.le_antisymm u (Int32.not_lt.mp l)
            have o : j < k := by
              apply Classical.byContradiction
              intro o
              refine hg (5 - j) (by omega) ⟨by omega, ?_⟩
              rw [show 5 - (5 - j) = j by omega]
              exact ⟨hRj, q.trans e⟩
            simp [rm_b, hRj, q, o, jk]
    rw [r2]
    omega
/-- the groups' sums add up to the sum -/
theorem rm_all {gs vs c : Nat → Int32} (K : rm_ok gs vs) (H : rr_okc c) : rc_sm (fun h => rm_s vs c (rm_q gs c (nI h)) 6) 8 = rm_s vs c (rm_R c) 6 := by
  unfold rm_s
  rw [rc_swap (fun h j => if rm_q gs c (nI h) j = true then rm_V vs c j else 0) 6 8]
  refine rc_smC 6 (fun j hj => ?_)
  cases hR : rm_R c j with
  | false =>
    have z : rc_sm (fun g => if rm_q gs c (nI g) j = true then rm_V vs c j else 0) 8 = rc_sm (fun _ => 0) 8 := rc_smC 8 (fun g _ => by simp [rm_q, hR])
    rw [z, rc_sm0]
    rfl
  | true =>
    obtain ⟨a, ha, e⟩ := (rm_at K H hj hR).1
    have z : rc_sm (fun g => if rm_q gs c (nI g) j = true then rm_V vs c j else 0) 8 = rc_sm (fun g => if a = g then rm_V vs c j else 0) 8 := by
      refine rc_smC 8 (fun g hg => ?_)
      have w : (rm_q gs c (nI g) j = true) ↔ a = g := by
        unfold rm_q
        rw [hR, e, Bool.true_and, decide_eq_true_eq]
        exact nI_eq (by omega) (by omega)
      by_cases q : a = g
      · rw [if_pos (w.mpr q), if_pos q]
      · rw [if_neg (fun x => q (w.mp x)), if_neg q]
    rw [z, rc_only, if_pos ha]
    rfl
theorem rm_le_cn (p : Nat → Bool) : nI (rc_cn p 6) ≤ 1000000 := nI_le (b := 1000000) (by have := rc_le p 6; omega) (by decide)
theorem rm_le_s {gs vs c : Nat → Int32} (K : rm_ok gs vs) (H : rr_okc c) (g : Int32) : rm_s vs c (rm_q gs c g) 6 ≤ 1000000 := by
  have b := rc_smB (f := fun j => if rm_q gs c g j = true then rm_V vs c j else 0) 6 (by omega) (fun j hj => by
    split
    · rename_i q
      have hR : rm_R c j = true := by
        unfold rm_q at q
        exact (Bool.and_eq_true _ _ ▸ q).1
      exact (rm_at K H hj hR).2
    · decide)
  apply Int32.le_iff_toInt_le.mpr
  rw [rm_big]
  have b2 := b.2
  unfold rm_s
  omega
theorem rm_le_d (m : Int32) : rm_d m 8 ≤ 1000000 := by
  obtain ⟨a, ha, e⟩ := rc_smN (f := fun g => (m >>> (nI g &&& 31)) &&& 1) (b := 1) 8 (fun j _ => by
    obtain ⟨z, hz, e⟩ := pk_andE (m >>> (nI j &&& 31)) (m := 1) 1 (by decide)
    exact ⟨z, by omega, e⟩)
  unfold rm_d
  rw [e]
  exact nI_le (b := 1000000) (by omega) (by decide)
/-- the class's spread of a repair -/
def rm_sp (vs c : Nat → Int32) : Int32 := if rm_lo vs c 6 = 1000000 then 1000000 else rm_hi vs c 6 - rm_lo vs c 6
theorem rm_le_sp {gs vs c : Nat → Int32} (K : rm_ok gs vs) (H : rr_okc c) : rm_sp vs c ≤ 1000000 := by
  unfold rm_sp
  split
  · exact Int32.le_refl _
  · rename_i n
    have h : rc_cn (rm_R c) 6 ≠ 0 := fun z => n (rm_lo0 z)
    obtain ⟨a, ha, hRa, ea⟩ := (rm_lo1 K H h).2
    obtain ⟨b, hb, hRb, eb⟩ := rm_hi1 K H h
    rw [ea, eb]
    have x := (rm_at K H ha hRa).2
    have y := (rm_at K H hb hRb).2
    apply Int32.le_iff_toInt_le.mpr
    rw [rm_big, Int32.toInt_sub, Int.bmod_eq_of_le (by omega) (by omega)]
    omega
