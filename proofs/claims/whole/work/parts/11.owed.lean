/-! part 11: the owed statements. The two states are the same; every id's group and value is within -/
def i_Rel (k : Nat) (u : SX) (v : SY) : Prop := u = v ∧ rm_ok u.2.2.1 u.2.2.2.1
theorem i_up {k : Nat} {u : SX} {v : SY} (h : i_Rel k u v) : i_Rel (k + 4) u v := h
theorem i_vc0 : wpX_init (fun u => wpY_init (fun v => i_Rel 0 u v)) := ⟨rfl, fun _ _ => ⟨⟨0, by decide, rfl⟩, show -1000 ≤ (0 : Int32).toInt by decide, show (0 : Int32).toInt ≤ 1000 by decide⟩⟩
theorem i_vc_add {k : Nat} {u : SX} {v : SY} (I : i_Rel k u v) (hk : k + 4 ≤ 2048) (v1 : Int32) (v2 : Int32) (v3 : Int32) : wpX_add (fun r u' => wpY_add (fun r' v' => r' = r ∧ i_Rel (k + 4) u' v') v v1 v2 v3) u v1 v2 v3 := by
  obtain ⟨E, K⟩ := I
  subst E
  obtain ⟨t, ks, gs, vs, c⟩ := u
  rcases rs_ix v1 (n := 6) (by decide) with a | ⟨a, b⟩ | ⟨x, hx, rfl⟩
  · exact br_t a (br_t a ⟨rfl, rfl, K⟩)
  · exact br_f a (br_f (Int32.not_lt.mpr b) (br_f a (br_f (rs_no 5 6 b (by decide) (by decide)) ⟨rfl, rfl, K⟩)))
  · have a : ¬ nI x < 0 := nI_pos (by omega)
    have a6 : nI x < 6 := nI_lt (b := 6) hx (by decide)
    have a5 : nI x ≤ 5 := nI_le (b := 5) (by omega) (by decide)
    rcases rs_ix v2 (n := 8) (by decide) with b | ⟨b, b2⟩ | ⟨g, hg, rfl⟩
    · exact br_f a (br_t a6 (sX_bad _ (Or.inl b) (br_t rfl (br_f a (br_t a5 (br_t b ⟨rfl, rfl, K⟩))))))
    · exact br_f a (br_t a6 (sX_bad _ (Or.inr ⟨b, b2⟩) (br_t rfl (br_f a (br_t a5 (br_f b (br_f (rs_no 7 8 b2 (by decide) (by decide)) ⟨rfl, rfl, K⟩)))))))
    · have b : ¬ nI g < 0 := nI_pos (by omega)
      have b7 : nI g ≤ 7 := nI_le (b := 7) (by omega) (by decide)
      refine br_f a (br_t a6 (sX_grp _ hg (br_f (by decide) ?_)))
      by_cases l : v3 < -1000
      · exact br_t l (br_f a (br_t a5 (br_f b (br_t b7 (br_t l ⟨rfl, rfl, K⟩)))))
      · refine br_f l ?_
        by_cases m : v3 ≤ 1000
        · refine br_t m (sX_free _ t ks gs vs c (fun q => ?_) (fun j q => ?_))
          · exact br_t rfl (br_f a (br_t a5 (br_f b (br_t b7 (br_f l (br_t m ⟨15, sY_add44 _ _ _ _ t ks gs vs c 14 0 rfl (fun _ => ⟨rfl, rfl, K⟩) (fun j z => by rw [q] at z; cases z)⟩))))))
          · have hj : j < 14 := by have := rr_s_lt t 14 0 j q; omega
            have vj : vp_in (nI j) 14 := vp_in_nI hj (by decide)
            have e : (nI j).toNatClampNeg = j := nI_clamp (by omega)
            have nj : ¬ nI j = -1 := by
              intro z
              exact nI_pos (n := j) (by omega) (by rw [z]; decide)
            refine br_f nj ⟨vj, nm_r (congrArg (fun m => upd t m (vp_nar .boolean 1)) e) ⟨vj, nm_r (congrArg (fun m => upd ks m (nI x)) e) ⟨vj, nm_r (congrArg (fun m => upd gs m (nI g)) e) ⟨vj, nm_r (congrArg (fun m => upd vs m v3) e) ?_⟩⟩⟩⟩
            refine br_f a (br_t a5 (br_f b (br_t b7 (br_f l (br_t m ⟨15, sY_add44 _ _ _ _ t ks gs vs c 14 0 rfl (fun z => by rw [q] at z; cases z) (fun i z => ?_)⟩)))))
            have ij : i = j := Option.some.inj (z.symm.trans q)
            subst ij
            exact ⟨rfl, rfl, rs_upd K i g hg v3 l m⟩
        · exact br_f m (br_f a (br_t a5 (br_f b (br_t b7 (br_f l (br_f m ⟨rfl, rfl, K⟩))))))
theorem i_vc_remove {k : Nat} {u : SX} {v : SY} (I : i_Rel k u v) (hk : k + 4 ≤ 2048) (v1 : Int32) : wpX_remove (fun r u' => wpY_remove (fun r' v' => r' = r ∧ i_Rel (k + 4) u' v') v v1) u v1 := by
  obtain ⟨E, K⟩ := I
  subst E
  obtain ⟨t, ks, gs, vs, c⟩ := u
  rcases rs_ix v1 (n := 14) (by decide) with a | ⟨a, b⟩ | ⟨x, hx, rfl⟩
  · exact br_t a (br_t a ⟨rfl, rfl, K⟩)
  · exact br_f a (br_t b (br_f a (br_t (Int32.not_le.mp (rs_no 13 14 b (by decide) (by decide))) ⟨rfl, rfl, K⟩)))
  · have a : ¬ nI x < 0 := nI_pos (by omega)
    have b : ¬ 13 < nI x := Int32.not_lt.mpr (nI_le (b := 13) (by omega) (by decide))
    have vx : vp_in (nI x) 14 := vp_in_nI hx (by decide)
    by_cases z : t (nI x).toNatClampNeg = 0
    · exact br_f a (br_f (rc_l14 hx) ⟨vx, br_t z (br_f a (br_f b ⟨vx, br_t z ⟨rfl, rfl, K⟩⟩))⟩)
    · exact br_f a (br_f (rc_l14 hx) ⟨vx, br_f z ⟨vx, nm_e (sX_rowCount _ _ ks gs vs c (br_f a (br_f b ⟨vx, br_f z ⟨vx, nm_e (sY_rem33 _ _ ks gs vs c ⟨rfl, rfl, K⟩)⟩⟩)))⟩⟩)
theorem i_vc_repairs {k : Nat} {u : SX} {v : SY} (I : i_Rel k u v) (hk : k + 4 ≤ 2048) : wpX_repairs (fun r => wpY_repairs (fun r' => r' = r ∧ i_Rel (k + 4) u v) v) u := by
  obtain ⟨E, K⟩ := I
  subst E
  obtain ⟨t, ks, gs, vs, c⟩ := u
  exact rX_repairs _ t ks gs vs c (rY_repairs _ t ks gs vs c ⟨rfl, rfl, K⟩)
theorem i_vc_countLeast {k : Nat} {u : SX} {v : SY} (I : i_Rel k u v) (hk : k + 4 ≤ 2048) (v1 : Int32) : wpX_countLeast (fun r u' => wpY_countLeast (fun r' v' => r' = r ∧ i_Rel (k + 4) u' v') v v1) u v1 := by
  obtain ⟨E, K⟩ := I
  subst E
  obtain ⟨t, ks, gs, vs, c⟩ := u
  unfold wpX_countLeast wpY_countLeast
  dsimp only
  rcases rs_ix v1 (n := 8) (by decide) with a | a | ⟨g, hg, rfl⟩
  · exact sX_bad _ (Or.inl a) (br_t rfl (sY_bad _ _ (Or.inl a) (br_f (by decide) ⟨rfl, rfl, K⟩)))
  · exact sX_bad _ (Or.inr a) (br_t rfl (sY_bad _ _ (Or.inr a) (br_f (by decide) ⟨rfl, rfl, K⟩)))
  · have B := rq_0 t ks gs vs (nI g) (rs_m1 hg)
    exact sX_grp _ hg (br_f (by decide) (qX_least _ B c (sY_grp _ _ hg (br_t rfl (qY_least _ B (fun c _ => rm_le_cn _) c ⟨rfl, rfl, K⟩)))))
theorem i_vc_countMost {k : Nat} {u : SX} {v : SY} (I : i_Rel k u v) (hk : k + 4 ≤ 2048) (v1 : Int32) : wpX_countMost (fun r u' => wpY_countMost (fun r' v' => r' = r ∧ i_Rel (k + 4) u' v') v v1) u v1 := by
  obtain ⟨E, K⟩ := I
  subst E
  obtain ⟨t, ks, gs, vs, c⟩ := u
  unfold wpX_countMost wpY_countMost
  dsimp only
  rcases rs_ix v1 (n := 8) (by decide) with a | a | ⟨g, hg, rfl⟩
  · exact sX_bad _ (Or.inl a) (br_t rfl (sY_bad _ _ (Or.inl a) (br_f (by decide) ⟨rfl, rfl, K⟩)))
  · exact sX_bad _ (Or.inr a) (br_t rfl (sY_bad _ _ (Or.inr a) (br_f (by decide) ⟨rfl, rfl, K⟩)))
  · have B := rq_0 t ks gs vs (nI g) (rs_m1 hg)
    exact sX_grp _ hg (br_f (by decide) (qX_most _ B c (sY_grp _ _ hg (br_t rfl (qY_most _ B c ⟨rfl, rfl, K⟩)))))
theorem i_vc_sumLeast {k : Nat} {u : SX} {v : SY} (I : i_Rel k u v) (hk : k + 4 ≤ 2048) (v1 : Int32) : wpX_sumLeast (fun r u' => wpY_sumLeast (fun r' v' => r' = r ∧ i_Rel (k + 4) u' v') v v1) u v1 := by
  obtain ⟨E, K⟩ := I
  subst E
  obtain ⟨t, ks, gs, vs, c⟩ := u
  unfold wpX_sumLeast wpY_sumLeast
  dsimp only
  rcases rs_ix v1 (n := 8) (by decide) with a | a | ⟨g, hg, rfl⟩
  · exact sX_bad _ (Or.inl a) (br_t rfl (sY_bad _ _ (Or.inl a) (br_f (by decide) ⟨rfl, rfl, K⟩)))
  · exact sX_bad _ (Or.inr a) (br_t rfl (sY_bad _ _ (Or.inr a) (br_f (by decide) ⟨rfl, rfl, K⟩)))
  · have B := rq_1 t ks gs vs (nI g) (rs_m1 hg)
    exact sX_grp _ hg (br_f (by decide) (qX_least _ B c (sY_grp _ _ hg (br_t rfl (qY_least _ B (fun c H => rm_le_s K H _) c ⟨rfl, rfl, K⟩)))))
theorem i_vc_sumMost {k : Nat} {u : SX} {v : SY} (I : i_Rel k u v) (hk : k + 4 ≤ 2048) (v1 : Int32) : wpX_sumMost (fun r u' => wpY_sumMost (fun r' v' => r' = r ∧ i_Rel (k + 4) u' v') v v1) u v1 := by
  obtain ⟨E, K⟩ := I
  subst E
  obtain ⟨t, ks, gs, vs, c⟩ := u
  unfold wpX_sumMost wpY_sumMost
  dsimp only
  rcases rs_ix v1 (n := 8) (by decide) with a | a | ⟨g, hg, rfl⟩
  · exact sX_bad _ (Or.inl a) (br_t rfl (sY_bad _ _ (Or.inl a) (br_f (by decide) ⟨rfl, rfl, K⟩)))
  · exact sX_bad _ (Or.inr a) (br_t rfl (sY_bad _ _ (Or.inr a) (br_f (by decide) ⟨rfl, rfl, K⟩)))
  · have B := rq_1 t ks gs vs (nI g) (rs_m1 hg)
    exact sX_grp _ hg (br_f (by decide) (qX_most _ B c (sY_grp _ _ hg (br_t rfl (qY_most _ B c ⟨rfl, rfl, K⟩)))))
theorem i_vc_groupsLeast {k : Nat} {u : SX} {v : SY} (I : i_Rel k u v) (hk : k + 4 ≤ 2048) : wpX_groupsLeast (fun r u' => wpY_groupsLeast (fun r' v' => r' = r ∧ i_Rel (k + 4) u' v') v) u := by
  obtain ⟨E, K⟩ := I
  subst E
  obtain ⟨t, ks, gs, vs, c⟩ := u
  unfold wpX_groupsLeast wpY_groupsLeast
  dsimp only
  have B := rq_2 t ks gs vs
  exact qX_least _ B c (qY_least _ B (fun c _ => rm_le_d _) c ⟨rfl, rfl, K⟩)
theorem i_vc_groupsMost {k : Nat} {u : SX} {v : SY} (I : i_Rel k u v) (hk : k + 4 ≤ 2048) : wpX_groupsMost (fun r u' => wpY_groupsMost (fun r' v' => r' = r ∧ i_Rel (k + 4) u' v') v) u := by
  obtain ⟨E, K⟩ := I
  subst E
  obtain ⟨t, ks, gs, vs, c⟩ := u
  unfold wpX_groupsMost wpY_groupsMost
  dsimp only
  have B := rq_2 t ks gs vs
  exact qX_most _ B c (qY_most _ B c ⟨rfl, rfl, K⟩)
theorem i_vc_spreadLeast {k : Nat} {u : SX} {v : SY} (I : i_Rel k u v) (hk : k + 4 ≤ 2048) : wpX_spreadLeast (fun r u' => wpY_spreadLeast (fun r' v' => r' = r ∧ i_Rel (k + 4) u' v') v) u := by
  obtain ⟨E, K⟩ := I
  subst E
  obtain ⟨t, ks, gs, vs, c⟩ := u
  unfold wpX_spreadLeast wpY_spreadLeast
  dsimp only
  have B := rq_3 t ks gs vs K
  exact qX_least _ B c (qY_least _ B (fun c H => rm_le_sp K H) c ⟨rfl, rfl, K⟩)
theorem i_vc_middleMost {k : Nat} {u : SX} {v : SY} (I : i_Rel k u v) (hk : k + 4 ≤ 2048) : wpX_middleMost (fun r u' => wpY_middleMost (fun r' v' => r' = r ∧ i_Rel (k + 4) u' v') v) u := by
  obtain ⟨E, K⟩ := I
  subst E
  obtain ⟨t, ks, gs, vs, c⟩ := u
  unfold wpX_middleMost wpY_middleMost
  dsimp only
  have B := rq_4 t ks gs vs
  exact qX_most _ B c (qY_most _ B c ⟨rfl, rfl, K⟩)
theorem i_vc_mixedMost {k : Nat} {u : SX} {v : SY} (I : i_Rel k u v) (hk : k + 4 ≤ 2048) : wpX_mixedMost (fun r u' => wpY_mixedMost (fun r' v' => r' = r ∧ i_Rel (k + 4) u' v') v) u := by
  obtain ⟨E, K⟩ := I
  subst E
  obtain ⟨t, ks, gs, vs, c⟩ := u
  unfold wpX_mixedMost wpY_mixedMost
  dsimp only
  have B := rq_5 t ks gs vs K
  exact qX_most _ B c (qY_most _ B c ⟨rfl, rfl, K⟩)
theorem i_vc_exactly {k : Nat} {u : SX} {v : SY} (I : i_Rel k u v) (hk : k + 4 ≤ 2048) (v1 : Int32) : wpX_exactly (fun r u' => wpY_exactly (fun r' v' => r' = r ∧ i_Rel (k + 4) u' v') v v1) u v1 := by
  obtain ⟨E, K⟩ := I
  subst E
  obtain ⟨t, ks, gs, vs, c⟩ := u
  exact qX_ex _ t ks gs vs c v1 (qY_ex _ t ks gs vs c v1 ⟨rfl, rfl, K⟩)
