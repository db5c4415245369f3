/-! part 6: the walks over a chosen repair, side X -/
theorem mX_isRow (post : Int32 → Prop) (t ks gs vs c : Nat → Int32) (g : Int32) (j : Nat) (H : rr_ok (c j)) (h1 : rm_a gs c g j = true → post 1) (h0 : rm_a gs c g j = false → post 0) : wpX_isRowOf post (t, ks, gs, vs, c) (c j) g := by
  by_cases a : c j < 0
  · exact br_t a (h0 (by simp [rm_a, rm_R, a]))
  · refine br_f a ?_
    by_cases b : g = -1
    · exact br_t b (h1 (by simp [rm_a, rm_R, a, b]))
    · refine br_f b ⟨H a, ?_⟩
      by_cases e : gs (c j).toNatClampNeg = g
      · exact br_t e (h1 (by simp [rm_a, rm_R, rm_G, a, e]))
      · exact br_f e (h0 (by simp [rm_a, rm_R, rm_G, a, b, e]))
theorem mX_count (post : Int32 → Prop) (t ks gs vs c : Nat → Int32) (g : Int32) (H : rr_okc c) (hp : post (nI (rc_cn (rm_a gs c g) 6))) : wpX_chosenCount post (t, ks, gs, vs, c) g := by
  refine loop_0 (fun n i s => wX_chosenCount_4 post g t ks gs vs c n s (nI i)) (fun i s => s = nI (rc_cn (rm_a gs c g) i)) 6 0 rfl ?_ ?_
  · intro n s h
    subst h
    exact br_t (by decide) hp
  · intro n i s hi h ih
    subst h
    have e : (nI i).toNatClampNeg = i := nI_clamp (by omega)
    refine br_f (rc_l6 hi) ⟨vp_in_nI hi (by decide), nm_r (congrArg c e) (mX_isRow _ t ks gs vs c g i (H i hi) (fun q => ?_) (fun q => ?_))⟩
    · exact br_f (by decide) (nm_r (nI_1 _) (nm_r (nI_1 i) (ih _ (congrArg nI (rc_t q).symm))))
    · exact br_t rfl (nm_r (nI_1 i) (ih _ (congrArg nI (rc_f q).symm)))
theorem mX_sum (post : Int32 → Prop) (t ks gs vs c : Nat → Int32) (g : Int32) (H : rr_okc c) (hp : post (rm_s vs c (rm_a gs c g) 6)) : wpX_chosenSum post (t, ks, gs, vs, c) g := by
  refine loop_0 (fun n i s => wX_chosenSum_4 post g t ks gs vs c n s (nI i)) (fun i s => s = rm_s vs c (rm_a gs c g) i) 6 0 rfl ?_ ?_
  · intro n s h
    subst h
    exact br_t (by decide) hp
  · intro n i s hi h ih
    subst h
    have e : (nI i).toNatClampNeg = i := nI_clamp (by omega)
    refine br_f (rc_l6 hi) ⟨vp_in_nI hi (by decide), nm_r (congrArg c e) (mX_isRow _ t ks gs vs c g i (H i hi) (fun q => ?_) (fun q => ?_))⟩
    · have hr : rm_R c i = true := by
        unfold rm_a at q
        exact (Bool.and_eq_true _ _ ▸ q).1
      exact br_f (by decide) ⟨H i hi (rm_Rn hr), nm_e (nm_r (nI_1 i) (ih _ (rm_st q).symm))⟩
    · exact br_t rfl (nm_r (nI_1 i) (ih _ (rm_sf q).symm))
theorem mX_set (post : Int32 → Prop) (t ks gs vs c : Nat → Int32) (H : rr_okc c) (hp : post (rm_m gs c 6)) : wpX_chosenGroupSet post (t, ks, gs, vs, c) := by
  refine loop_0 (fun n i s => wX_chosenGroupSet_4 post t ks gs vs c n s (nI i)) (fun i s => s = rm_m gs c i) 6 0 rfl ?_ ?_
  · intro n s h
    subst h
    exact br_t (by decide) hp
  · intro n i s hi h ih
    subst h
    have e : (nI i).toNatClampNeg = i := nI_clamp (by omega)
    refine br_f (rc_l6 hi) ⟨vp_in_nI hi (by decide), nm_r (congrArg c e) ?_⟩
    by_cases a : c i < 0
    · exact br_t a (nm_r (nI_1 i) (ih _ (by simp [rm_m, rm_Rf a])))
    · exact br_f a ⟨H i hi a, nm_e (nm_r (nI_1 i) (ih _ (by simp [rm_m, rm_Rt a, rm_G])))⟩
theorem mX_groups (post : Int32 → Prop) (t ks gs vs c : Nat → Int32) (H : rr_okc c) (hp : post (rm_d (rm_m gs c 6) 8)) : wpX_chosenGroupCount post (t, ks, gs, vs, c) := by
  refine mX_set _ t ks gs vs c H ?_
  refine loop_0 (fun n i s => wX_chosenGroupCount_9 post (rm_m gs c 6) t ks gs vs c n s (nI i)) (fun i s => s = rm_d (rm_m gs c 6) i) 8 0 rfl ?_ ?_
  · intro n s h
    subst h
    exact br_t (by decide) hp
  · intro n i s hi h ih
    subst h
    exact br_f (rc_l8 hi) (nm_e (nm_r (nI_1 i) (ih _ rfl)))
theorem mX_spread (post : Int32 → Prop) (t ks gs vs c : Nat → Int32) (H : rr_okc c) (h1 : rm_lo vs c 6 = 1000000 → post 1000000) (h0 : ¬ rm_lo vs c 6 = 1000000 → post (rm_hi vs c 6 - rm_lo vs c 6)) : wpX_chosenSpread post (t, ks, gs, vs, c) := by
  refine loop_0 (fun n i (s : Int32 × Int32) => wX_chosenSpread_8 post t ks gs vs c n s.1 s.2 (nI i)) (fun i s => s = (rm_lo vs c i, rm_hi vs c i)) 6 (1000000, -1000000) rfl ?_ ?_
  · intro n s h
    subst h
    exact br_t (by decide) (br_c h1 h0)
  · intro n i s hi h ih
    subst h
    have e : (nI i).toNatClampNeg = i := nI_clamp (by omega)
    refine br_f (rc_l6 hi) ⟨vp_in_nI hi (by decide), nm_r (congrArg c e) ?_⟩
    by_cases a : c i < 0
    · exact br_t a (nm_r (nI_1 i) (ih (rm_lo vs c i, rm_hi vs c i) (by simp [rm_lo, rm_hi, rm_Rf a])))
    · refine br_f a ⟨H i hi a, ?_⟩
      have key : ∀ z : Int32, z = rm_lo vs c (i + 1) → wX_chosenSpread_49 post (wX_chosenSpread_8 post t ks gs vs c n) (rm_hi vs c i) (nI i) (c i) z t ks gs vs c := by
        intro z hz
        refine ⟨H i hi a, ?_⟩
        by_cases b : rm_V vs c i ≤ rm_hi vs c i
        · exact br_t b (nm_r (nI_1 i) (ih (z, rm_hi vs c i) (by simp [hz, rm_hi, rm_Rt a, b])))
        · exact br_f b ⟨H i hi a, nm_e (nm_r (nI_1 i) (ih (z, rm_V vs c i) (by simp [hz, rm_hi, rm_Rt a, b])))⟩
      by_cases b : rm_lo vs c i ≤ rm_V vs c i
      · exact br_t b (key _ (by simp [rm_lo, rm_Rt a, b]))
      · exact br_f b ⟨H i hi a, key _ (by simp [rm_lo, rm_Rt a, b]; rfl)⟩
theorem mX_place (post : Int32 → Prop) (t ks gs vs c : Nat → Int32) (k : Nat) (hk : k < 6) (H : rr_okc c) (hR : ¬ c k < 0) (hp : post (nI (rc_cn (rm_b vs c k) 6))) : wpX_chosenPlace post (t, ks, gs, vs, c) (nI k) := by
  have ek : (nI k).toNatClampNeg = k := nI_clamp (by omega)
  refine ⟨vp_in_nI hk (by decide), nm_r (congrArg c ek) ?_⟩
  refine loop_0 (fun n i s => wX_chosenPlace_12 post (nI k) (c k) t ks gs vs c n s (nI i)) (fun i s => s = nI (rc_cn (rm_b vs c k) i)) 6 0 rfl ?_ ?_
  · intro n s h
    subst h
    exact br_t (by decide) hp
  · intro n i s hi h ih
    subst h
    have e : (nI i).toNatClampNeg = i := nI_clamp (by omega)
    refine br_f (rc_l6 hi) ⟨vp_in_nI hi (by decide), nm_r (congrArg c e) (br_f hR ?_)⟩
    by_cases a : c i < 0
    · exact br_t a (nm_r (nI_1 i) (ih _ (congrArg nI (rc_f (by simp [rm_b, rm_Rf a])).symm)))
    · have hv := H i hi a
      have hw := H k hk hR
      refine br_f a ⟨hv, hw, ?_⟩
      have go : rm_b vs c k i = true → ∀ x4, x4 = nI i + 1 → ∀ x3, x3 = nI (rc_cn (rm_b vs c k) i) + 1 → wX_chosenPlace_12 post (nI k) (c k) t ks gs vs c n x3 x4 := by
        intro hb x4 e4 x3 e3
        rw [e4, e3, nI_1, nI_1]
        exact ih _ (congrArg nI (rc_t hb).symm)
      have st : rm_b vs c k i = false → ∀ x4, x4 = nI i + 1 → wX_chosenPlace_12 post (nI k) (c k) t ks gs vs c n (nI (rc_cn (rm_b vs c k) i)) x4 := by
        intro hb x4 e4
        rw [e4, nI_1]
        exact ih _ (congrArg nI (rc_f hb).symm)
      by_cases l : rm_V vs c k ≤ rm_V vs c i
      · refine br_t l ⟨hv, hw, ?_⟩
        have l' : ¬ rm_V vs c i < rm_V vs c k := Int32.not_lt.mpr l
        by_cases q : rm_V vs c i = rm_V vs c k
        · refine br_t q ?_
          by_cases o : k ≤ i
          · exact br_t (nI_le o (by omega)) (br_t rfl (br_t rfl (st (by
              have o' : ¬ i < k := by omega
              simp [rm_b, l', o']))))
          · exact br_f (nI_ge (by omega) (by omega)) (br_t rfl (br_f (by decide) (fun x3 e3 x4 e4 => go (by
              have o' : i < k := by omega
              simp [rm_b, rm_Rt a, q, o']) x4 e4 x3 e3)))
        · exact br_f q (br_t rfl (br_t rfl (st (by simp [rm_b, l', q]))))
      · have l' : rm_V vs c i < rm_V vs c k := Int32.not_le.mp l
        have q : ¬ rm_V vs c i = rm_V vs c k := fun q => l (by rw [q]; exact Int32.le_refl _)
        exact br_f l ⟨hv, hw, br_f q (br_f (by decide) (fun x3 e3 x4 e4 => go (by simp [rm_b, rm_Rt a, l']) x4 e4 x3 e3))⟩
theorem mX_mid12 (post : Int32 → Prop) (t ks gs vs c : Nat → Int32) (tg : Int32) (H : rr_okc c) : ∀ d k, k + d = 6 → post (rm_f vs c tg d k) → wX_chosenMiddle_12 post tg t ks gs vs c (d + 1) (nI k) := by
  intro d
  induction d with
  | zero =>
    intro k h hp
    have e : k = 6 := by omega
    subst e
    exact br_t (by decide) hp
  | succ d ih =>
    intro k h hp
    have hk : k < 6 := by omega
    have e : (nI k).toNatClampNeg = k := nI_clamp (by omega)
    refine br_f (rc_l6 hk) ⟨vp_in_nI hk (by decide), nm_r (congrArg c e) ?_⟩
    by_cases a : c k < 0
    · exact br_t a (nm_r (nI_1 k) (ih _ (by omega) (by simpa [rm_f, rm_Rf a] using hp)))
    · refine br_f a (mX_place _ t ks gs vs c k hk H a ?_)
      by_cases q : nI (rc_cn (rm_b vs c k) 6) = tg
      · refine br_t q ⟨H k hk a, ?_⟩
        have z : rm_f vs c tg (d + 1) k = rm_V vs c k := by simp [rm_f, rm_Rt a, q]
        rw [z] at hp
        exact hp
      · exact br_f q (nm_r (nI_1 k) (ih _ (by omega) (by simpa [rm_f, q] using hp)))
theorem mX_middle (post : Int32 → Prop) (t ks gs vs c : Nat → Int32) (H : rr_okc c) (hp : post (rm_f vs c ((nI (rc_cn (rm_R c) 6) - 1) / 2) 6 0)) : wpX_chosenMiddle post (t, ks, gs, vs, c) := by
  refine mX_count _ t ks gs vs c (-1) H ⟨by decide, ?_⟩
  rw [rm_aR]
  exact nm_e ⟨7, mX_mid12 post t ks gs vs c _ H 6 0 rfl hp⟩
theorem mX_mixed (post : Int32 → Prop) (t ks gs vs c : Nat → Int32) (H : rr_okc c) (h0 : rc_cn (rm_R c) 6 = 0 → post 1000000) (h1 : rc_cn (rm_R c) 6 ≠ 0 → rm_d (rm_m gs c 6) 8 = nI (rc_cn (rm_R c) 6) → post (rm_s vs c (rm_R c) 6)) (h2 : rc_cn (rm_R c) 6 ≠ 0 → ¬ rm_d (rm_m gs c 6) 8 = nI (rc_cn (rm_R c) 6) → post 1000000) : wpX_chosenMixedSum post (t, ks, gs, vs, c) := by
  refine mX_count _ t ks gs vs c (-1) H ?_
  rw [rm_aR]
  have hl := rc_le (rm_R c) 6
  by_cases z : rc_cn (rm_R c) 6 = 0
  · exact br_t (show nI (rc_cn (rm_R c) 6) = 0 by rw [z]; rfl) (h0 z)
  · refine br_f (show ¬ nI (rc_cn (rm_R c) 6) = 0 from nI_ne0 (by omega) (by omega)) (mX_groups _ t ks gs vs c H ?_)
    refine br_c (fun q => mX_sum _ t ks gs vs c (-1) H ?_) (fun q => h2 z q)
    rw [rm_aR]
    exact h1 z q
