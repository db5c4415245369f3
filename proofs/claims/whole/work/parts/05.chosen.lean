/-! part 5: the pure picture of a chosen repair: rows, values, groups, counts, sums, set, places -/
def rm_R (c : Nat → Int32) (j : Nat) : Bool := !decide (c j < 0)
def rm_V (vs c : Nat → Int32) (j : Nat) : Int32 := vs (c j).toNatClampNeg
def rm_G (gs c : Nat → Int32) (j : Nat) : Int32 := gs (c j).toNatClampNeg
/-- the chosen row of key j is there and of group g (the reference's question) -/
def rm_q (gs c : Nat → Int32) (g : Int32) (j : Nat) : Bool := rm_R c j && decide (rm_G gs c j = g)
/-- the same with -1 for any group (the class's question) -/
def rm_a (gs c : Nat → Int32) (g : Int32) (j : Nat) : Bool := rm_R c j && (decide (g = -1) || decide (rm_G gs c j = g))
/-- the sum of the values of the chosen rows that have p -/
def rm_s (vs c : Nat → Int32) (p : Nat → Bool) : Nat → Int32 := rc_sm (fun j => if p j = true then rm_V vs c j else 0)
/-- the set of groups -/
def rm_m (gs c : Nat → Int32) : Nat → Int32
  | 0 => 0
  | n + 1 => if rm_R c n = true then rm_m gs c n ||| ((1 : Int32) <<< (rm_G gs c n &&& 31)) else rm_m gs c n
/-- how many groups a set has -/
def rm_d (m : Int32) : Nat → Int32 := rc_sm (fun g => (m >>> (nI g &&& 31)) &&& 1)
/-- row j stands before row k -/
def rm_b (vs c : Nat → Int32) (k j : Nat) : Bool := rm_R c j && (decide (rm_V vs c j < rm_V vs c k) || (decide (rm_V vs c j = rm_V vs c k) && decide (j < k)))
/-- the value at a place -/
def rm_f (vs c : Nat → Int32) (tg : Int32) : Nat → Nat → Int32
  | 0, _ => 1000000
  | d + 1, k => if rm_R c k = true ∧ nI (rc_cn (rm_b vs c k) 6) = tg then rm_V vs c k else rm_f vs c tg d (k + 1)
/-- the least and the greatest value, as the class finds them -/
def rm_lo (vs c : Nat → Int32) : Nat → Int32
  | 0 => 1000000
  | n + 1 => if rm_R c n = true then (if rm_lo vs c n ≤ rm_V vs c n then rm_lo vs c n else rm_V vs c n) else rm_lo vs c n
def rm_hi (vs c : Nat → Int32) : Nat → Int32
  | 0 => -1000000
  | n + 1 => if rm_R c n = true then (if rm_V vs c n ≤ rm_hi vs c n then rm_hi vs c n else rm_V vs c n) else rm_hi vs c n
theorem rm_Rt {c : Nat → Int32} {j : Nat} (h : ¬ c j < 0) : rm_R c j = true := by simp [rm_R, h]
theorem rm_Rf {c : Nat → Int32} {j : Nat} (h : c j < 0) : rm_R c j = false := by simp [rm_R, h]
theorem rm_Rn {c : Nat → Int32} {j : Nat} (h : rm_R c j = true) : ¬ c j < 0 := by simpa [rm_R] using h
theorem rm_st {vs c : Nat → Int32} {p : Nat → Bool} {n : Nat} (h : p n = true) : rm_s vs c p (n + 1) = rm_s vs c p n + rm_V vs c n := by simp [rm_s, rc_sm, h]
theorem rm_sf {vs c : Nat → Int32} {p : Nat → Bool} {n : Nat} (h : p n = false) : rm_s vs c p (n + 1) = rm_s vs c p n := by simp [rm_s, rc_sm, h]
theorem rm_aq {gs c : Nat → Int32} {g : Int32} (h : ¬ g = -1) : rm_a gs c g = rm_q gs c g := by
  funext j
  simp [rm_a, rm_q, h]
theorem rm_aR (gs c : Nat → Int32) : rm_a gs c (-1) = rm_R c := by
  funext j
  simp [rm_a]
