/-! part 10: the free id, the number of rows taken, the group check, on both sides -/
theorem sX_free2 (post : Int32 → Prop) (t ks gs vs c : Nat → Int32) : ∀ d i, i + d = 14 → (rr_s t d i = none → post (-1)) → (∀ j, rr_s t d i = some j → post (nI j)) → wX_smallestFreeId_2 post t ks gs vs c (d + 1) (nI i) := by
  intro d
  induction d with
  | zero =>
    intro i h hn _
    have e : i = 14 := by omega
    subst e
    exact br_t (by decide) (hn rfl)
  | succ d ih =>
    intro i h hn hs
    have hi : i < 14 := by omega
    have e : (nI i).toNatClampNeg = i := nI_clamp (by omega)
    refine br_f (rc_l14 hi) ⟨vp_in_nI hi (by decide), ?_⟩
    by_cases h1 : t i = 0
    · exact br_t (by rw [e]; exact h1) (hs i (by simp [rr_s, h1]))
    · exact br_f (by rw [e]; exact h1) (nm_r (nI_1 i) (ih _ (by omega) (fun q => hn (by simp [rr_s, h1, q])) (fun j q => hs j (by simp [rr_s, h1, q]))))
theorem sX_free (post : Int32 → Prop) (t ks gs vs c : Nat → Int32) (hn : rr_s t 14 0 = none → post (-1)) (hs : ∀ j, rr_s t 14 0 = some j → post (nI j)) : wpX_smallestFreeId post (t, ks, gs, vs, c) := ⟨15, sX_free2 post t ks gs vs c 14 0 rfl hn hs⟩
theorem sY_add44 (post : Int32 → SY → Prop) (a b v : Int32) (t ks gs vs c : Nat → Int32) : ∀ d i, i + d = 14 → (rr_s t d i = none → post (-4) (t, ks, gs, vs, c)) → (∀ j, rr_s t d i = some j → post (nI j) (upd t j (vp_nar .boolean 1), upd ks j a, upd gs j b, upd vs j v, c)) → wY_add_44 post a b v t ks gs vs c (d + 1) (nI i) := by
  intro d
  induction d with
  | zero =>
    intro i h hn _
    have e : i = 14 := by omega
    subst e
    exact br_t (by decide) (hn rfl)
  | succ d ih =>
    intro i h hn hs
    have hi : i < 14 := by omega
    have vi : vp_in (nI i) 14 := vp_in_nI hi (by decide)
    have e : (nI i).toNatClampNeg = i := nI_clamp (by omega)
    refine br_f (rc_l14 hi) ⟨vi, ?_⟩
    by_cases h1 : t i = 0
    · exact br_t (by rw [e]; exact h1) ⟨vi, nm_r (congrArg (fun m => upd t m (vp_nar .boolean 1)) e) ⟨vi, nm_r (congrArg (fun m => upd ks m a) e) ⟨vi, nm_r (congrArg (fun m => upd gs m b) e) ⟨vi, nm_r (congrArg (fun m => upd vs m v) e) (hs i (by simp [rr_s, h1]))⟩⟩⟩⟩
    · exact br_f (by rw [e]; exact h1) (nm_r (nI_1 i) (ih _ (by omega) (fun q => hn (by simp [rr_s, h1, q])) (fun j q => hs j (by simp [rr_s, h1, q]))))
/-- row j is taken -/
def rs_k (t : Nat → Int32) (j : Nat) : Bool := !decide (t j = 0)
theorem sX_rowCount (post : Int32 → Prop) (t ks gs vs c : Nat → Int32) (hp : post (nI (rc_cn (rs_k t) 14))) : wpX_rowCount post (t, ks, gs, vs, c) := by
  refine loop_0 (fun n i s => wX_rowCount_4 post t ks gs vs c n s (nI i)) (fun i s => s = nI (rc_cn (rs_k t) i)) 14 0 rfl ?_ ?_
  · intro n s h
    subst h
    exact br_t (by decide) hp
  · intro n i s hi h ih
    subst h
    have e : (nI i).toNatClampNeg = i := nI_clamp (by omega)
    refine br_f (rc_l14 hi) ⟨vp_in_nI hi (by decide), ?_⟩
    by_cases h1 : t i = 0
    · exact br_t (by rw [e]; exact h1) (nm_r (nI_1 i) (ih _ (congrArg nI (rc_f (by simp [rs_k, h1])).symm)))
    · exact br_f (by rw [e]; exact h1) (nm_r (nI_1 _) (nm_r (nI_1 i) (ih _ (congrArg nI (rc_t (by simp [rs_k, h1])).symm))))
theorem sY_rem33 (post : Int32 → SY → Prop) (t ks gs vs c : Nat → Int32) (hp : post (nI (rc_cn (rs_k t) 14)) (t, ks, gs, vs, c)) : ∃ n, wY_remove_33 post t ks gs vs c n 0 0 := by
  refine loop_0 (fun n i s => wY_remove_33 post t ks gs vs c n s (nI i)) (fun i s => s = nI (rc_cn (rs_k t) i)) 14 0 rfl ?_ ?_
  · intro n s h
    subst h
    exact br_t (by decide) hp
  · intro n i s hi h ih
    subst h
    have e : (nI i).toNatClampNeg = i := nI_clamp (by omega)
    refine br_f (rc_l14 hi) ⟨vp_in_nI hi (by decide), ?_⟩
    by_cases h1 : t i = 0
    · exact br_t (by rw [e]; exact h1) (nm_r (nI_1 i) (ih _ (congrArg nI (rc_f (by simp [rs_k, h1])).symm)))
    · exact br_f (by rw [e]; exact h1) (nm_r (nI_1 _) (nm_r (nI_1 i) (ih _ (congrArg nI (rc_t (by simp [rs_k, h1])).symm))))
/-- below 0, at least n, or one of 0 .. n - 1 -/
theorem rs_ix (x : Int32) {n : Nat} (hn : n < 2 ^ 31) : x < 0 ∨ (¬ x < 0 ∧ nI n ≤ x) ∨ ∃ j : Nat, j < n ∧ x = nI j := by
  by_cases h : x < 0
  · exact Or.inl h
  · obtain ⟨j, hj, rfl⟩ := nI_of h
    by_cases h2 : j < n
    · exact Or.inr (Or.inr ⟨j, h2, rfl⟩)
    · exact Or.inr (Or.inl ⟨h, nI_le (by omega) hj⟩)
theorem rs_no {x : Int32} (m n : Nat) (h : nI n ≤ x) (hm : m < n) (hn : n < 2 ^ 31) : ¬ x ≤ nI m := fun q => nI_ge hm hn (Int32.le_trans h q)
theorem sX_grp (post : Int32 → Prop) {g : Nat} (hg : g < 8) (h : post 1) : wpX_isGroup post (nI g) := br_f (nI_pos (by omega)) (br_f (rc_l8 hg) h)
theorem sX_bad (post : Int32 → Prop) {x : Int32} (hx : x < 0 ∨ (¬ x < 0 ∧ nI 8 ≤ x)) (h : post 0) : wpX_isGroup post x := by
  rcases hx with a | ⟨a, b⟩
  · exact br_t a h
  · exact br_f a (br_t b h)
theorem sY_grp (post : Int32 → Prop) (u : SY) {g : Nat} (hg : g < 8) (h : post 0) : wpY_bad post u (nI g) := br_f (nI_pos (by omega)) (br_t (nI_le (b := 7) (by omega) (by decide)) h)
theorem sY_bad (post : Int32 → Prop) (u : SY) {x : Int32} (hx : x < 0 ∨ (¬ x < 0 ∧ nI 8 ≤ x)) (h : post 1) : wpY_bad post u x := by
  rcases hx with a | ⟨a, b⟩
  · exact br_t a h
  · exact br_f a (br_f (rs_no 7 8 b (by decide) (by decide)) h)
theorem rs_m1 {g : Nat} (h : g < 8) : ¬ nI g = -1 := by
  intro e
  exact nI_pos (n := g) (by omega) (by rw [e]; decide)
theorem rs_upd {gs vs : Nat → Int32} (K : rm_ok gs vs) (j g : Nat) (hg : g < 8) (v : Int32) (h1 : ¬ v < -1000) (h2 : v ≤ 1000) : rm_ok (upd gs j (nI g)) (upd vs j v) := by
  intro m hm
  by_cases e : m = j
  · subst e
    rw [pk_us, pk_us]
    have a := Int32.le_iff_toInt_le.mp (Int32.not_lt.mp h1)
    have b := Int32.le_iff_toInt_le.mp h2
    rw [show (-1000 : Int32).toInt = -1000 by decide] at a
    rw [show (1000 : Int32).toInt = 1000 by decide] at b
    exact ⟨⟨g, hg, rfl⟩, a, b⟩
  · rw [pk_un e, pk_un e]
    exact K m hm
