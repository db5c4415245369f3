/-! part 7: the walks over a chosen repair, side Y -/
theorem mY_count (post : Int32 → Prop) (t ks gs vs c : Nat → Int32) (g : Int32) (H : rr_okc c) (hp : post (nI (rc_cn (rm_q gs c g) 6))) : wpY_count post (t, ks, gs, vs, c) g := by
  refine loop_0 (fun n i s => wY_count_4 post g t ks gs vs c n s (nI i)) (fun i s => s = nI (rc_cn (rm_q gs c g) i)) 6 0 rfl ?_ ?_
  · intro n s h
    subst h
    exact br_t (by decide) hp
  · intro n i s hi h ih
    subst h
    have e : (nI i).toNatClampNeg = i := nI_clamp (by omega)
    have v6 : vp_in (nI i) 6 := vp_in_nI hi (by decide)
    refine br_f (rc_l6 hi) ⟨v6, ?_⟩
    by_cases a : c i < 0
    · exact br_t (by rw [e]; exact a) (nm_r (nI_1 i) (ih _ (congrArg nI (rc_f (by simp [rm_q, rm_Rf a])).symm)))
    · refine br_f (by rw [e]; exact a) ⟨v6, by rw [e]; exact H i hi a, ?_⟩
      by_cases q : rm_G gs c i = g
      · exact br_t (by rw [e]; exact q) (nm_r (nI_1 _) (nm_r (nI_1 i) (ih _ (congrArg nI (rc_t (by simp [rm_q, rm_Rt a, q])).symm))))
      · exact br_f (by rw [e]; exact q) (nm_r (nI_1 i) (ih _ (congrArg nI (rc_f (by simp [rm_q, q])).symm)))
theorem mY_sum (post : Int32 → Prop) (t ks gs vs c : Nat → Int32) (g : Int32) (H : rr_okc c) (hp : post (rm_s vs c (rm_q gs c g) 6)) : wpY_sum post (t, ks, gs, vs, c) g := by
  refine loop_0 (fun n i s => wY_sum_4 post g t ks gs vs c n s (nI i)) (fun i s => s = rm_s vs c (rm_q gs c g) i) 6 0 rfl ?_ ?_
  · intro n s h
    subst h
    exact br_t (by decide) hp
  · intro n i s hi h ih
    subst h
    have e : (nI i).toNatClampNeg = i := nI_clamp (by omega)
    have v6 : vp_in (nI i) 6 := vp_in_nI hi (by decide)
    refine br_f (rc_l6 hi) ⟨v6, ?_⟩
    by_cases a : c i < 0
    · exact br_t (by rw [e]; exact a) (nm_r (nI_1 i) (ih _ (rm_sf (by simp [rm_q, rm_Rf a])).symm))
    · refine br_f (by rw [e]; exact a) ⟨v6, by rw [e]; exact H i hi a, ?_⟩
      by_cases q : rm_G gs c i = g
      · refine br_t (by rw [e]; exact q) ⟨v6, by rw [e]; exact H i hi a, nm_r (e' := rm_s vs c (rm_q gs c g) i + rm_V vs c i) (by rw [e]; rfl) (nm_r (nI_1 i) (ih _ (rm_st (by simp [rm_q, rm_Rt a, q])).symm))⟩
      · exact br_f (by rw [e]; exact q) (nm_r (nI_1 i) (ih _ (rm_sf (by simp [rm_q, q])).symm))
theorem mY_set (post : Int32 → Prop) (t ks gs vs c : Nat → Int32) (H : rr_okc c) (hp : post (rm_m gs c 6)) : wpY_mask post (t, ks, gs, vs, c) := by
  refine loop_0 (fun n i s => wY_mask_4 post t ks gs vs c n s (nI i)) (fun i s => s = rm_m gs c i) 6 0 rfl ?_ ?_
  · intro n s h
    subst h
    exact br_t (by decide) hp
  · intro n i s hi h ih
    subst h
    have e : (nI i).toNatClampNeg = i := nI_clamp (by omega)
    have v6 : vp_in (nI i) 6 := vp_in_nI hi (by decide)
    refine br_f (rc_l6 hi) ⟨v6, ?_⟩
    by_cases a : c i < 0
    · exact br_t (by rw [e]; exact a) (nm_r (nI_1 i) (ih _ (by simp [rm_m, rm_Rf a])))
    · exact br_f (by rw [e]; exact a) ⟨v6, by rw [e]; exact H i hi a, nm_r (e' := rm_m gs c i ||| ((1 : Int32) <<< (rm_G gs c i &&& 31))) (by rw [e]; rfl) (nm_r (nI_1 i) (ih _ (by simp [rm_m, rm_Rt a])))⟩
theorem mY_size (post : Int32 → Prop) (t ks gs vs c : Nat → Int32) (hp : post (nI (rc_cn (rm_R c) 6))) : wpY_size post (t, ks, gs, vs, c) := by
  refine loop_0 (fun n i s => wY_size_4 post t ks gs vs c n s (nI i)) (fun i s => s = nI (rc_cn (rm_R c) i)) 6 0 rfl ?_ ?_
  · intro n s h
    subst h
    exact br_t (by decide) hp
  · intro n i s hi h ih
    subst h
    have e : (nI i).toNatClampNeg = i := nI_clamp (by omega)
    refine br_f (rc_l6 hi) ⟨vp_in_nI hi (by decide), ?_⟩
    by_cases a : c i < 0
    · exact br_t (by rw [e]; exact a) (nm_r (nI_1 i) (ih _ (congrArg nI (rc_f (rm_Rf a)).symm)))
    · exact br_f (by rw [e]; exact a) (nm_r (nI_1 _) (nm_r (nI_1 i) (ih _ (congrArg nI (rc_t (rm_Rt a)).symm))))
/-- the inner loop of valueAt, at a key without a row -/
theorem mY_va0 (post J : Int32 → Prop) (t ks gs vs c : Nat → Int32) (tg : Int32) (k : Nat) (hk : k < 6) (a : c k < 0) (hJ : J (nI (k + 1))) (s : Int32) : ∃ n, wY_valueAt_13 post J tg (nI k) t ks gs vs c n s 0 := by
  have ek : (nI k).toNatClampNeg = k := nI_clamp (by omega)
  have vk : vp_in (nI k) 6 := vp_in_nI hk (by decide)
  refine loop_0 (fun n i s => wY_valueAt_13 post J tg (nI k) t ks gs vs c n s (nI i)) (fun _ _ => True) 6 s trivial ?_ ?_
  · intro n s _
    exact br_t (by decide) ⟨vk, br_t (by rw [ek]; exact a) (nm_r (nI_1 k) hJ)⟩
  · intro n i s hi _ ih
    exact br_f (rc_l6 hi) ⟨vk, br_t (by rw [ek]; exact a) (nm_r (nI_1 i) (ih _ trivial))⟩
/-- the inner loop of valueAt, at a key with a row -/
theorem mY_va1 (post J : Int32 → Prop) (t ks gs vs c : Nat → Int32) (tg : Int32) (k : Nat) (hk : k < 6) (H : rr_okc c) (a : ¬ c k < 0) (h1 : nI (rc_cn (rm_b vs c k) 6) = tg → post (rm_V vs c k)) (h0 : ¬ nI (rc_cn (rm_b vs c k) 6) = tg → J (nI (k + 1))) : ∃ n, wY_valueAt_13 post J tg (nI k) t ks gs vs c n 0 0 := by
  have ek : (nI k).toNatClampNeg = k := nI_clamp (by omega)
  have vk : vp_in (nI k) 6 := vp_in_nI hk (by decide)
  have wk : vp_in (c (nI k).toNatClampNeg) 14 := by rw [ek]; exact H k hk a
  have ak : ¬ c (nI k).toNatClampNeg < 0 := by rw [ek]; exact a
  have zk : vs (c (nI k).toNatClampNeg).toNatClampNeg = rm_V vs c k := by rw [ek]; rfl
  refine loop_0 (fun n i s => wY_valueAt_13 post J tg (nI k) t ks gs vs c n s (nI i)) (fun i s => s = nI (rc_cn (rm_b vs c k) i)) 6 0 rfl ?_ ?_
  · intro n s h
    subst h
    refine br_t (by decide) ⟨vk, br_f ak (br_c (fun q => ⟨vk, wk, ?_⟩) (fun q => nm_r (nI_1 k) (h0 q)))⟩
    rw [zk]
    exact h1 q
  · intro n i s hi h ih
    subst h
    have e : (nI i).toNatClampNeg = i := nI_clamp (by omega)
    have vi : vp_in (nI i) 6 := vp_in_nI hi (by decide)
    refine br_f (rc_l6 hi) ⟨vk, br_f ak ⟨vi, ?_⟩⟩
    by_cases b : c i < 0
    · exact br_t (by rw [e]; exact b) (nm_r (nI_1 i) (ih _ (congrArg nI (rc_f (by simp [rm_b, rm_Rf b])).symm)))
    · have wi : vp_in (c (nI i).toNatClampNeg) 14 := by rw [e]; exact H i hi b
      have zi : vs (c (nI i).toNatClampNeg).toNatClampNeg = rm_V vs c i := by rw [e]; rfl
      refine br_f (by rw [e]; exact b) ⟨vi, wi, nm_r zi ⟨vk, wk, nm_r zk ?_⟩⟩
      by_cases l : rm_V vs c i < rm_V vs c k
      · exact br_t l (nm_r (nI_1 _) (nm_r (nI_1 i) (ih _ (congrArg nI (rc_t (by simp [rm_b, rm_Rt b, l])).symm))))
      · refine br_f l ?_
        by_cases q : rm_V vs c i = rm_V vs c k
        · refine br_t q ?_
          by_cases o : k ≤ i
          · exact br_t (nI_le o (by omega)) (nm_r (nI_1 i) (ih _ (congrArg nI (rc_f (by
              have o' : ¬ i < k := by omega
              simp [rm_b, l, o'])).symm)))
          · exact br_f (nI_ge (by omega) (by omega)) (nm_r (nI_1 _) (nm_r (nI_1 i) (ih _ (congrArg nI (rc_t (by
              have o' : i < k := by omega
              simp [rm_b, rm_Rt b, q, o'])).symm))))
        · exact br_f q (nm_r (nI_1 i) (ih _ (congrArg nI (rc_f (by simp [rm_b, l, q])).symm)))
theorem mY_va2 (post : Int32 → Prop) (t ks gs vs c : Nat → Int32) (tg : Int32) (H : rr_okc c) : ∀ d k, k + d = 6 → post (rm_f vs c tg d k) → wY_valueAt_2 post tg t ks gs vs c (d + 1) (nI k) := by
  intro d
  induction d with
  | zero =>
    intro k h hp
    have e : k = 6 := by omega
    subst e
    exact br_t (by decide) hp
  | succ d ih =>
    intro k h hp
    have hk : k < 6 := by omega
    refine br_f (rc_l6 hk) ?_
    by_cases a : c k < 0
    · exact mY_va0 post _ t ks gs vs c tg k hk a (ih _ (by omega) (by simpa [rm_f, rm_Rf a] using hp)) 0
    · refine mY_va1 post _ t ks gs vs c tg k hk H a (fun q => ?_) (fun q => ih _ (by omega) (by simpa [rm_f, q] using hp))
      have z : rm_f vs c tg (d + 1) k = rm_V vs c k := by simp [rm_f, rm_Rt a, q]
      rw [z] at hp
      exact hp
theorem mY_valueAt (post : Int32 → Prop) (t ks gs vs c : Nat → Int32) (tg : Int32) (H : rr_okc c) (hp : post (rm_f vs c tg 6 0)) : wpY_valueAt post (t, ks, gs, vs, c) tg := ⟨7, mY_va2 post t ks gs vs c tg H 6 0 rfl hp⟩
/-- what the reference has before it looks at which measure is asked: size, different groups, the sum over the groups of the groups' sums -/
theorem mY_rest (post : Int32 → Prop) (t ks gs vs c : Nat → Int32) (w g : Int32) (H : rr_okc c) (w0 : ¬ w = 0) (w1 : ¬ w = 1)
    (hp : (w = 2 → post (rm_d (rm_m gs c 6) 8)) ∧ (¬ w = 2 → ((nI (rc_cn (rm_R c) 6) = 0 → post 1000000) ∧ (¬ nI (rc_cn (rm_R c) 6) = 0 → ((w = 3 → post (rm_f vs c (nI (rc_cn (rm_R c) 6) - 1) 6 0 - rm_f vs c 0 6 0)) ∧ (¬ w = 3 → ((w = 4 → post (rm_f vs c ((nI (rc_cn (rm_R c) 6) - 1) / 2) 6 0)) ∧ (¬ w = 4 → ((rm_d (rm_m gs c 6) 8 = nI (rc_cn (rm_R c) 6) → post (rc_sm (fun h => rm_s vs c (rm_q gs c (nI h)) 6) 8)) ∧ (¬ rm_d (rm_m gs c 6) 8 = nI (rc_cn (rm_R c) 6) → post 1000000)))))))))) : wpY_measure post (t, ks, gs, vs, c) w g := by
  refine br_f w0 (br_f w1 (mY_size _ t ks gs vs c (mY_set _ t ks gs vs c H ?_)))
  refine loop_0 (fun n i (s : Int32 × Int32) => wY_measure_41 post w (nI (rc_cn (rm_R c) 6)) (rm_m gs c 6) t ks gs vs c n s.1 s.2 (nI i)) (fun i s => s = (rm_d (rm_m gs c 6) i, rc_sm (fun h => rm_s vs c (rm_q gs c (nI h)) 6) i)) 8 (0, 0) rfl ?_ ?_
  · intro n s h
    subst h
    refine br_t (by decide) ?_
    by_cases w2 : w = 2
    · exact br_t w2 (hp.1 w2)
    · refine br_f w2 ?_
      have hp2 := hp.2 w2
      by_cases z : nI (rc_cn (rm_R c) 6) = 0
      · exact br_t z (hp2.1 z)
      · refine br_f z ?_
        have hp3 := hp2.2 z
        by_cases w3 : w = 3
        · exact br_t w3 (mY_valueAt _ t ks gs vs c _ H (mY_valueAt _ t ks gs vs c _ H (hp3.1 w3)))
        · refine br_f w3 ?_
          have hp4 := hp3.2 w3
          by_cases w4 : w = 4
          · exact br_t w4 ⟨by decide, mY_valueAt _ t ks gs vs c _ H (hp4.1 w4)⟩
          · exact br_f w4 (hp4.2 w4)
  · intro n i s hi h ih
    subst h
    refine br_f (rc_l8 hi) (nm_e (mY_sum _ t ks gs vs c (nI i) H (nm_e (nm_r (nI_1 i) (ih (rm_d (rm_m gs c 6) (i + 1), rc_sm (fun h => rm_s vs c (rm_q gs c (nI h)) 6) (i + 1)) rfl)))))
