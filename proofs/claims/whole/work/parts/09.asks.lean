/-! part 9: each measure on both sides, then the least and the most over all repairs, and the search of exactly -/
/-- the class's mixed sum of a repair -/
def rm_mi (gs vs c : Nat → Int32) : Int32 := if rc_cn (rm_R c) 6 = 0 then 1000000 else if rm_d (rm_m gs c 6) 8 = nI (rc_cn (rm_R c) 6) then rm_s vs c (rm_R c) 6 else 1000000
/-- one number is the measure of both sides -/
def rq_B (t ks gs vs : Nat → Int32) (mv : (Nat → Int32) → Int32) (w g w' g' : Int32) : Prop := ∀ c, rr_okc c → (∀ P : Int32 → Prop, P (mv c) → wpX_measureChosen P (t, ks, gs, vs, c) w g) ∧ (∀ P : Int32 → Prop, P (mv c) → wpY_measure P (t, ks, gs, vs, c) w' g')
theorem rq_0 (t ks gs vs : Nat → Int32) (g : Int32) (hg : ¬ g = -1) : rq_B t ks gs vs (fun c => nI (rc_cn (rm_q gs c g) 6)) 0 g 0 g := fun c H =>
  ⟨fun P hP => br_f (by decide) (br_f (by decide) (br_t rfl (mX_count _ t ks gs vs c g H (by rw [rm_aq hg]; exact hP)))),
   fun P hP => br_t rfl (mY_count _ t ks gs vs c g H hP)⟩
theorem rq_1 (t ks gs vs : Nat → Int32) (g : Int32) (hg : ¬ g = -1) : rq_B t ks gs vs (fun c => rm_s vs c (rm_q gs c g) 6) 1 g 1 g := fun c H =>
  ⟨fun P hP => br_f (by decide) (br_f (by decide) (br_f (by decide) (br_t rfl (mX_sum _ t ks gs vs c g H (by rw [rm_aq hg]; exact hP))))),
   fun P hP => br_f (by decide) (br_t rfl (mY_sum _ t ks gs vs c g H hP))⟩
theorem rq_2 (t ks gs vs : Nat → Int32) : rq_B t ks gs vs (fun c => rm_d (rm_m gs c 6) 8) 2 (-1) 2 0 := fun c H =>
  ⟨fun P hP => br_f (by decide) (br_f (by decide) (br_f (by decide) (br_f (by decide) (br_t rfl (mX_groups _ t ks gs vs c H hP))))),
   fun P hP => mY_rest P t ks gs vs c 2 0 H (by decide) (by decide) (br_t rfl hP)⟩
theorem rq_z {c : Nat → Int32} : nI (rc_cn (rm_R c) 6) = 0 ↔ rc_cn (rm_R c) 6 = 0 := by
  have := rc_le (rm_R c) 6
  exact nI_eq (b := 0) (by omega) (by decide)
theorem rq_3 (t ks gs vs : Nat → Int32) (K : rm_ok gs vs) : rq_B t ks gs vs (fun c => rm_sp vs c) 3 (-1) 3 0 := fun c H =>
  ⟨fun P hP => br_f (by decide) (br_f (by decide) (br_f (by decide) (br_f (by decide) (br_f (by decide) (br_t rfl (mX_spread _ t ks gs vs c H (fun e => by
      have z : rm_sp vs c = 1000000 := by simp [rm_sp, e]
      rw [← z]; exact hP) (fun e => by
      have z : rm_sp vs c = rm_hi vs c 6 - rm_lo vs c 6 := by simp [rm_sp, e]
      rw [← z]; exact hP))))))),
   fun P hP => mY_rest P t ks gs vs c 3 0 H (by decide) (by decide) (br_f (by decide) (br_c (fun e => by
      have z : rm_sp vs c = 1000000 := by simp [rm_sp, rm_lo0 (vs := vs) (rq_z.mp e)]
      rw [← z]; exact hP) (fun e => br_t rfl (by
      have h : rc_cn (rm_R c) 6 ≠ 0 := fun x => e (rq_z.mpr x)
      have z : rm_sp vs c = rm_hi vs c 6 - rm_lo vs c 6 := by simp [rm_sp, (rm_lo1 K H h).1]
      rw [rm_p0 K H h, rm_p1 K H h, ← z]; exact hP))))⟩
theorem rq_4 (t ks gs vs : Nat → Int32) : rq_B t ks gs vs (fun c => rm_f vs c ((nI (rc_cn (rm_R c) 6) - 1) / 2) 6 0) 4 (-1) 4 0 := fun c H =>
  ⟨fun P hP => br_f (by decide) (br_f (by decide) (br_f (by decide) (br_f (by decide) (br_f (by decide) (br_f (by decide) (br_t rfl (mX_middle _ t ks gs vs c H hP))))))),
   fun P hP => mY_rest P t ks gs vs c 4 0 H (by decide) (by decide) (br_f (by decide) (br_c (fun e => by
      have z := rm_fn vs c ((nI (rc_cn (rm_R c) 6) - 1) / 2) 6 0 (fun k _ hk => rc_zero 6 (rq_z.mp e) k (by omega))
      rw [← z]; exact hP) (fun _ => br_f (by decide) (br_t rfl hP))))⟩
theorem rq_5 (t ks gs vs : Nat → Int32) (K : rm_ok gs vs) : rq_B t ks gs vs (fun c => rm_mi gs vs c) 5 (-1) 5 0 := fun c H =>
  ⟨fun P hP => br_f (by decide) (br_f (by decide) (br_f (by decide) (br_f (by decide) (br_f (by decide) (br_f (by decide) (br_f (by decide) (br_t rfl (mX_mixed _ t ks gs vs c H (fun e => by
      have z : rm_mi gs vs c = 1000000 := by simp [rm_mi, e]
      rw [← z]; exact hP) (fun e q => by
      have z : rm_mi gs vs c = rm_s vs c (rm_R c) 6 := by simp [rm_mi, e, q]
      rw [← z]; exact hP) (fun e q => by
      have z : rm_mi gs vs c = 1000000 := by simp [rm_mi, q]
      rw [← z]; exact hP))))))))),
   fun P hP => mY_rest P t ks gs vs c 5 0 H (by decide) (by decide) (br_f (by decide) (br_c (fun e => by
      have z : rm_mi gs vs c = 1000000 := by simp [rm_mi, rq_z.mp e]
      rw [← z]; exact hP) (fun e => br_f (by decide) (br_f (by decide) (br_c (fun q => by
      have h : rc_cn (rm_R c) 6 ≠ 0 := fun x => e (rq_z.mpr x)
      have z : rm_mi gs vs c = rm_s vs c (rm_R c) 6 := by simp [rm_mi, h, q]
      rw [rm_all K H, ← z]; exact hP) (fun q => by
      have z : rm_mi gs vs c = 1000000 := by simp [rm_mi, q]
      rw [← z]; exact hP))))))⟩
/-- the least over the repairs from number i on, with the chosen ids at the end -/
def rq_L (t ks : Nat → Int32) (mv : (Nat → Int32) → Int32) : Nat → Nat → Int32 → (Nat → Int32) → Int32 × (Nat → Int32)
  | 0, _, x, c => (x, c)
  | d + 1, i, x, c => rq_L t ks mv d (i + 1) (if x ≤ mv (rr_c t ks 6 0 (nI i) c) then x else mv (rr_c t ks 6 0 (nI i) c)) (rr_c t ks 6 0 (nI i) c)
/-- the most -/
def rq_M (t ks : Nat → Int32) (mv : (Nat → Int32) → Int32) : Nat → Nat → Int32 → (Nat → Int32) → Int32 × (Nat → Int32)
  | 0, _, x, c => (x, c)
  | d + 1, i, x, c => rq_M t ks mv d (i + 1) (if mv (rr_c t ks 6 0 (nI i) c) = 1000000 then x else if x = 1000000 then mv (rr_c t ks 6 0 (nI i) c) else if mv (rr_c t ks 6 0 (nI i) c) ≤ x then x else mv (rr_c t ks 6 0 (nI i) c)) (rr_c t ks 6 0 (nI i) c)
/-- whether some repair has just this set of groups -/
def rq_E (t ks gs : Nat → Int32) (w : Int32) : Nat → Nat → (Nat → Int32) → Int32 × (Nat → Int32)
  | 0, _, c => (0, c)
  | d + 1, i, c => if rm_m gs (rr_c t ks 6 0 (nI i) c) 6 = w then (1, rr_c t ks 6 0 (nI i) c) else rq_E t ks gs w d (i + 1) (rr_c t ks 6 0 (nI i) c)
theorem qX_least12 (post : Int32 → SX → Prop) {t ks gs vs : Nat → Int32} {mv : (Nat → Int32) → Int32} {w g w' g' : Int32} (B : rq_B t ks gs vs mv w g w' g') (N : Nat) (hN : N < 2 ^ 31) : ∀ d i x c, i + d = N → post (rq_L t ks mv d i x c).1 (t, ks, gs, vs, (rq_L t ks mv d i x c).2) → wX_leastOver_12 post w g (nI N) (d + 1) x (nI i) t ks gs vs c := by
  intro d
  induction d with
  | zero =>
    intro i x c h hp
    exact br_t (nI_le (by omega) (by omega)) hp
  | succ d ih =>
    intro i x c h hp
    refine br_f (nI_ge (by omega) hN) (rX_choose _ t ks gs vs c (nI i) ((B _ (rr_c6 t ks (nI i) c)).1 _ ?_))
    simp only [rq_L] at hp
    refine br_c (fun q => nm_r (nI_1 i) (ih _ _ _ (by omega) ?_)) (fun q => nm_r (nI_1 i) (ih _ _ _ (by omega) ?_))
    · rw [if_pos q] at hp; exact hp
    · rw [if_neg q] at hp; exact hp
theorem qX_least (post : Int32 → SX → Prop) {t ks gs vs : Nat → Int32} {mv : (Nat → Int32) → Int32} {w g w' g' : Int32} (B : rq_B t ks gs vs mv w g w' g') (c : Nat → Int32) (hp : post (rq_L t ks mv (rr_p t ks 6) 0 1000000 c).1 (t, ks, gs, vs, (rq_L t ks mv (rr_p t ks 6) 0 1000000 c).2)) : wpX_leastOver post (t, ks, gs, vs, c) w g :=
  rX_repairs _ t ks gs vs c ⟨rr_p t ks 6 + 1, qX_least12 post B _ (rr_p6 t ks) _ 0 _ c (Nat.zero_add _) hp⟩
theorem qX_most12 (post : Int32 → SX → Prop) {t ks gs vs : Nat → Int32} {mv : (Nat → Int32) → Int32} {w g w' g' : Int32} (B : rq_B t ks gs vs mv w g w' g') (N : Nat) (hN : N < 2 ^ 31) : ∀ d i x c, i + d = N → post (rq_M t ks mv d i x c).1 (t, ks, gs, vs, (rq_M t ks mv d i x c).2) → wX_mostOver_12 post w g (nI N) (d + 1) x (nI i) t ks gs vs c := by
  intro d
  induction d with
  | zero =>
    intro i x c h hp
    exact br_t (nI_le (by omega) (by omega)) hp
  | succ d ih =>
    intro i x c h hp
    refine br_f (nI_ge (by omega) hN) (rX_choose _ t ks gs vs c (nI i) ((B _ (rr_c6 t ks (nI i) c)).1 _ ?_))
    simp only [rq_M] at hp
    refine br_c (fun q => nm_r (nI_1 i) (ih _ _ _ (by omega) ?_)) (fun q => br_c (fun q2 => nm_r (nI_1 i) (ih _ _ _ (by omega) ?_)) (fun q2 => br_c (fun q3 => nm_r (nI_1 i) (ih _ _ _ (by omega) ?_)) (fun q3 => nm_r (nI_1 i) (ih _ _ _ (by omega) ?_))))
    · rw [if_pos q] at hp; exact hp
    · rw [if_neg q, if_pos q2] at hp; exact hp
    · rw [if_neg q, if_neg q2, if_pos q3] at hp; exact hp
    · rw [if_neg q, if_neg q2, if_neg q3] at hp; exact hp
theorem qX_most (post : Int32 → SX → Prop) {t ks gs vs : Nat → Int32} {mv : (Nat → Int32) → Int32} {w g w' g' : Int32} (B : rq_B t ks gs vs mv w g w' g') (c : Nat → Int32) (hp : post (rq_M t ks mv (rr_p t ks 6) 0 1000000 c).1 (t, ks, gs, vs, (rq_M t ks mv (rr_p t ks 6) 0 1000000 c).2)) : wpX_mostOver post (t, ks, gs, vs, c) w g :=
  rX_repairs _ t ks gs vs c ⟨rr_p t ks 6 + 1, qX_most12 post B _ (rr_p6 t ks) _ 0 _ c (Nat.zero_add _) hp⟩
theorem qY_most12 (post : Int32 → SY → Prop) {t ks gs vs : Nat → Int32} {mv : (Nat → Int32) → Int32} {w g w' g' : Int32} (B : rq_B t ks gs vs mv w g w' g') (N : Nat) (hN : N < 2 ^ 31) : ∀ d i x c, i + d = N → post (rq_M t ks mv d i x c).1 (t, ks, gs, vs, (rq_M t ks mv d i x c).2) → wY_most_12 post w' g' (nI N) (d + 1) x (nI i) t ks gs vs c := by
  intro d
  induction d with
  | zero =>
    intro i x c h hp
    exact br_t (nI_le (by omega) (by omega)) hp
  | succ d ih =>
    intro i x c h hp
    refine br_f (nI_ge (by omega) hN) (rY_choose _ t ks gs vs c (nI i) ((B _ (rr_c6 t ks (nI i) c)).2 _ ?_))
    simp only [rq_M] at hp
    refine br_c (fun q => nm_r (nI_1 i) (ih _ _ _ (by omega) ?_)) (fun q => br_c (fun q2 => nm_r (nI_1 i) (ih _ _ _ (by omega) ?_)) (fun q2 => br_c (fun q3 => nm_r (nI_1 i) (ih _ _ _ (by omega) ?_)) (fun q3 => nm_r (nI_1 i) (ih _ _ _ (by omega) ?_))))
    · rw [if_pos q] at hp; exact hp
    · rw [if_neg q, if_pos q2] at hp; exact hp
    · rw [if_neg q, if_neg q2, if_pos q3] at hp; exact hp
    · rw [if_neg q, if_neg q2, if_neg q3] at hp; exact hp
theorem qY_most (post : Int32 → SY → Prop) {t ks gs vs : Nat → Int32} {mv : (Nat → Int32) → Int32} {w g w' g' : Int32} (B : rq_B t ks gs vs mv w g w' g') (c : Nat → Int32) (hp : post (rq_M t ks mv (rr_p t ks 6) 0 1000000 c).1 (t, ks, gs, vs, (rq_M t ks mv (rr_p t ks 6) 0 1000000 c).2)) : wpY_most post (t, ks, gs, vs, c) w' g' :=
  rY_repairs _ t ks gs vs c ⟨rr_p t ks 6 + 1, qY_most12 post B _ (rr_p6 t ks) _ 0 _ c (Nat.zero_add _) hp⟩
theorem qY_least12 (post : Int32 → SY → Prop) {t ks gs vs : Nat → Int32} {mv : (Nat → Int32) → Int32} {w g w' g' : Int32} (B : rq_B t ks gs vs mv w g w' g') (hb : ∀ c, rr_okc c → mv c ≤ 1000000) (N : Nat) (hN : N < 2 ^ 31) : ∀ d i x c, i + d = N → x ≤ 1000000 → post (rq_L t ks mv d i x c).1 (t, ks, gs, vs, (rq_L t ks mv d i x c).2) → wY_least_12 post w' g' (nI N) (d + 1) x (nI i) t ks gs vs c := by
  intro d
  induction d with
  | zero =>
    intro i x c h hx hp
    exact br_t (nI_le (by omega) (by omega)) hp
  | succ d ih =>
    intro i x c h hx hp
    have hb' := hb _ (rr_c6 t ks (nI i) c)
    refine br_f (nI_ge (by omega) hN) (rY_choose _ t ks gs vs c (nI i) ((B _ (rr_c6 t ks (nI i) c)).2 _ ?_))
    simp only [rq_L] at hp
    refine br_c (fun q => nm_r (nI_1 i) (ih _ _ _ (by omega) hx ?_)) (fun q => br_c (fun q2 => nm_r (nI_1 i) (ih _ _ _ (by omega) hb' ?_)) (fun q2 => br_c (fun q3 => nm_r (nI_1 i) (ih _ _ _ (by omega) hx ?_)) (fun q3 => nm_r (nI_1 i) (ih _ _ _ (by omega) hb' ?_))))
    · rw [if_pos (by rw [q]; exact hx)] at hp; exact hp
    · rw [if_neg (fun z => q (Int32.le_antisymm hb' (by rw [← q2]; exact z)))] at hp; exact hp
    · rw [if_pos q3] at hp; exact hp
    · rw [if_neg q3] at hp; exact hp
theorem qY_least (post : Int32 → SY → Prop) {t ks gs vs : Nat → Int32} {mv : (Nat → Int32) → Int32} {w g w' g' : Int32} (B : rq_B t ks gs vs mv w g w' g') (hb : ∀ c, rr_okc c → mv c ≤ 1000000) (c : Nat → Int32) (hp : post (rq_L t ks mv (rr_p t ks 6) 0 1000000 c).1 (t, ks, gs, vs, (rq_L t ks mv (rr_p t ks 6) 0 1000000 c).2)) : wpY_least post (t, ks, gs, vs, c) w' g' :=
  rY_repairs _ t ks gs vs c ⟨rr_p t ks 6 + 1, qY_least12 post B hb _ (rr_p6 t ks) _ 0 _ c (Nat.zero_add _) (Int32.le_refl _) hp⟩
theorem qX_ex14 (post : Int32 → SX → Prop) (t ks gs vs : Nat → Int32) (w : Int32) (N : Nat) (hN : N < 2 ^ 31) : ∀ d i c, i + d = N → post (rq_E t ks gs w d i c).1 (t, ks, gs, vs, (rq_E t ks gs w d i c).2) → wX_exactly_14 post w (nI N) (d + 1) (nI i) t ks gs vs c := by
  intro d
  induction d with
  | zero =>
    intro i c h hp
    exact br_t (nI_le (by omega) (by omega)) hp
  | succ d ih =>
    intro i c h hp
    refine br_f (nI_ge (by omega) hN) (rX_choose _ t ks gs vs c (nI i) (mX_set _ t ks gs vs _ (rr_c6 t ks (nI i) c) ?_))
    simp only [rq_E] at hp
    refine br_c (fun q => ?_) (fun q => nm_r (nI_1 i) (ih _ _ (by omega) ?_))
    · rw [if_pos q] at hp; exact hp
    · rw [if_neg q] at hp; exact hp
theorem qX_ex (post : Int32 → SX → Prop) (t ks gs vs c : Nat → Int32) (m : Int32) (hp : post (rq_E t ks gs (m &&& 255) (rr_p t ks 6) 0 c).1 (t, ks, gs, vs, (rq_E t ks gs (m &&& 255) (rr_p t ks 6) 0 c).2)) : wpX_exactly post (t, ks, gs, vs, c) m :=
  nm_e (rX_repairs _ t ks gs vs c ⟨rr_p t ks 6 + 1, qX_ex14 post t ks gs vs _ _ (rr_p6 t ks) _ 0 c (Nat.zero_add _) hp⟩)
theorem qY_ex7 (post : Int32 → SY → Prop) (t ks gs vs : Nat → Int32) (m : Int32) (N : Nat) (hN : N < 2 ^ 31) : ∀ d i c, i + d = N → post (rq_E t ks gs (m &&& 255) d i c).1 (t, ks, gs, vs, (rq_E t ks gs (m &&& 255) d i c).2) → wY_exactly_7 post m (nI N) (d + 1) (nI i) t ks gs vs c := by
  intro d
  induction d with
  | zero =>
    intro i c h hp
    exact br_t (nI_le (by omega) (by omega)) hp
  | succ d ih =>
    intro i c h hp
    refine br_f (nI_ge (by omega) hN) (rY_choose _ t ks gs vs c (nI i) (mY_set _ t ks gs vs _ (rr_c6 t ks (nI i) c) ?_))
    simp only [rq_E] at hp
    refine br_c (fun q => ?_) (fun q => nm_r (nI_1 i) (ih _ _ (by omega) ?_))
    · rw [if_pos q] at hp; exact hp
    · rw [if_neg q] at hp; exact hp
theorem qY_ex (post : Int32 → SY → Prop) (t ks gs vs c : Nat → Int32) (m : Int32) (hp : post (rq_E t ks gs (m &&& 255) (rr_p t ks 6) 0 c).1 (t, ks, gs, vs, (rq_E t ks gs (m &&& 255) (rr_p t ks 6) 0 c).2)) : wpY_exactly post (t, ks, gs, vs, c) m :=
  rY_repairs _ t ks gs vs c ⟨rr_p t ks 6 + 1, qY_ex7 post t ks gs vs m _ (rr_p6 t ks) _ 0 c (Nat.zero_add _) hp⟩
