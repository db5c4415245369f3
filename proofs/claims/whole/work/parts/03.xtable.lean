/-! part 3: the walks over the table, side X -/
theorem rX_rows (post : Int32 → Prop) (t ks gs vs c : Nat → Int32) (key : Int32) (hp : post (nI (rc_cn (rr_q t ks key) 14))) : wpX_rowsOfKey post (t, ks, gs, vs, c) key := by
  refine loop_0 (fun n i s => wX_rowsOfKey_4 post key t ks gs vs c n s (nI i)) (fun i s => s = nI (rc_cn (rr_q t ks key) i)) 14 0 rfl ?_ ?_
  · intro n s h
    subst h
    exact br_t (by decide) hp
  · intro n i s hi h ih
    subst h
    have e : (nI i).toNatClampNeg = i := nI_clamp (by omega)
    refine br_f (rc_l14 hi) ⟨vp_in_nI hi (by decide), ?_⟩
    by_cases h1 : t i = 0
    · exact br_t (by rw [e]; exact h1) (nm_r (nI_1 i) (ih _ (congrArg nI (rc_f (by simp [rr_q, h1])).symm)))
    · refine br_f (by rw [e]; exact h1) ⟨vp_in_nI hi (by decide), ?_⟩
      by_cases h2 : ks i = key
      · exact br_t (by rw [e]; exact h2) (nm_r (nI_1 _) (nm_r (nI_1 i) (ih _ (congrArg nI (rc_t (by simp [rr_q, h1, h2])).symm))))
      · exact br_f (by rw [e]; exact h2) (nm_r (nI_1 i) (ih _ (congrArg nI (rc_f (by simp [rr_q, h1, h2])).symm)))
theorem rX_at5 (post : Int32 → Prop) (t ks gs vs c : Nat → Int32) (key pl : Int32) : ∀ d i s, i + d = 14 → post (rr_at t ks key pl d i s) → wX_rowOfKeyAt_5 post key pl t ks gs vs c (d + 1) (nI s) (nI i) := by
  intro d
  induction d with
  | zero =>
    intro i s h hp
    have e : i = 14 := by omega
    subst e
    exact br_t (by decide) hp
  | succ d ih =>
    intro i s h hp
    have hi : i < 14 := by omega
    have e : (nI i).toNatClampNeg = i := nI_clamp (by omega)
    refine br_f (rc_l14 hi) ⟨vp_in_nI hi (by decide), ?_⟩
    by_cases h1 : t i = 0
    · exact br_t (by rw [e]; exact h1) (nm_r (nI_1 i) (ih _ _ (by omega) (by simpa [rr_at, rr_q, h1] using hp)))
    · refine br_f (by rw [e]; exact h1) ⟨vp_in_nI hi (by decide), ?_⟩
      by_cases h2 : ks i = key
      · refine br_t (by rw [e]; exact h2) ?_
        by_cases h3 : nI s = pl
        · exact br_t h3 (by simpa [rr_at, rr_q, h1, h2, h3] using hp)
        · exact br_f h3 (nm_r (nI_1 s) (nm_r (nI_1 i) (ih _ _ (by omega) (by simpa [rr_at, rr_q, h1, h2, h3] using hp))))
      · exact br_f (by rw [e]; exact h2) (nm_r (nI_1 i) (ih _ _ (by omega) (by simpa [rr_at, rr_q, h1, h2] using hp)))
theorem rX_at (post : Int32 → Prop) (t ks gs vs c : Nat → Int32) (key pl : Int32) (hp : post (rr_at t ks key pl 14 0 0)) : wpX_rowOfKeyAt post (t, ks, gs, vs, c) key pl := ⟨15, rX_at5 post t ks gs vs c key pl 14 0 0 rfl hp⟩
theorem rX_repairs (post : Int32 → Prop) (t ks gs vs c : Nat → Int32) (hp : post (nI (rr_p t ks 6))) : wpX_repairs post (t, ks, gs, vs, c) := by
  refine loop_0 (fun n i s => wX_repairs_4 post t ks gs vs c n s (nI i)) (fun i s => s = nI (rr_p t ks i)) 6 1 rfl ?_ ?_
  · intro n s h
    subst h
    exact br_t (by decide) hp
  · intro n i s hi h ih
    subst h
    refine br_f (rc_l6 hi) (rX_rows _ t ks gs vs c (nI i) ?_)
    have hn := rr_nle t ks i
    by_cases h0 : rr_n t ks i = 0
    · exact br_t (show nI (rr_n t ks i) ≤ 0 by rw [h0]; decide) (nm_r (nI_1 i) (ih _ (by simp [rr_p, h0])))
    · exact br_f (show ¬ nI (rr_n t ks i) ≤ 0 from nI_nle (by omega) (by omega)) (nm_r (pk_mul _ _) (nm_r (nI_1 i) (ih _ (by simp [rr_p, h0]; rfl))))
theorem rX_choose4 (post : SX → Prop) (t ks gs vs : Nat → Int32) : ∀ d i x c, i + d = 6 → post (t, ks, gs, vs, rr_c t ks d i x c) → wX_choose_4 post (d + 1) x (nI i) t ks gs vs c := by
  intro d
  induction d with
  | zero =>
    intro i x c h hp
    have e : i = 6 := by omega
    subst e
    exact br_t (by decide) hp
  | succ d ih =>
    intro i x c h hp
    have hi : i < 6 := by omega
    have e : (nI i).toNatClampNeg = i := nI_clamp (by omega)
    have hn := rr_nle t ks i
    refine br_f (rc_l6 hi) ⟨vp_in_nI hi (by decide), nm_r (congrArg (fun m => upd c m (-1)) e) (rX_rows _ t ks gs vs _ (nI i) ?_)⟩
    by_cases h0 : rr_n t ks i = 0
    · refine br_t (show nI (rr_n t ks i) ≤ 0 by rw [h0]; decide) (nm_r (nI_1 i) (ih _ _ _ (by omega) ?_))
      simpa [rr_c, h0] using hp
    · have hz : ¬ nI (rr_n t ks i) = 0 := nI_ne0 (by omega) (by omega)
      refine br_f (show ¬ nI (rr_n t ks i) ≤ 0 from nI_nle (by omega) (by omega)) ⟨hz, rX_at _ t ks gs vs _ (nI i) _ ⟨vp_in_nI hi (by decide), nm_r (congrArg (fun m => upd (upd c i (-1)) m _) e) ⟨hz, nm_e (nm_r (nI_1 i) (ih _ _ _ (by omega) ?_))⟩⟩⟩
      have hq : rr_c t ks (d + 1) i x c = rr_c t ks d (i + 1) (x / nI (rr_n t ks i)) (upd (upd c i (-1)) i (rr_at t ks (nI i) (x - x / nI (rr_n t ks i) * nI (rr_n t ks i)) 14 0 0)) := by simp [rr_c, h0]
      rw [hq] at hp
      exact hp
theorem rX_choose (post : SX → Prop) (t ks gs vs c : Nat → Int32) (x : Int32) (hp : post (t, ks, gs, vs, rr_c t ks 6 0 x c)) : wpX_choose post (t, ks, gs, vs, c) x := ⟨7, rX_choose4 post t ks gs vs 6 0 x c rfl hp⟩
