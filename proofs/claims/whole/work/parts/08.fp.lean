/-! doubles that are eighths of whole numbers -/
/-- three places up -/
def fp_up : FP.Core.Datum → FP.Core.Datum
  | .nan => .nan
  | .inf s => .inf s
  | .fin s c q => .fin s c (q + 3)
/-- the datum is i eighths -/
def fp_E (i : Int) (d : FP.Core.Datum) : Prop := FP.Core.Whole i (fp_up d)
def e8d (i : Int) : FP.Core.Datum := FP.Core.round FP.Core.b64 (.fin (decide (i < 0)) i.natAbs (-3))
def e8 (i : Int) : UInt64 := FP.Core.of64 (e8d i)
theorem e8_val (i : Int) : FP.Core.val64 (e8 i) = e8d i := FP.Core.val64_of64 (FP.Core.round_fits FP.Core.good_b64 _)
/-- a datum of i eighths rounds as the least one does -/
theorem fp_round {i : Int} {s : Bool} {c : Nat} {q : Int} (h : fp_E i (.fin s c q)) (hz : i = 0 → s = false) : FP.Core.round FP.Core.b64 (.fin s c q) = e8d i := by
  have hn := FP.Core.whole_natAbs (show FP.Core.Whole i (.fin s c (q + 3)) from h)
  have hs : s = decide (i < 0) := by
    by_cases h0 : i = 0
    · rw [hz h0, h0]; rfl
    · exact FP.Core.whole_sign (show FP.Core.Whole i (.fin s c (q + 3)) from h) h0
  subst hs
  refine FP.Core.roundRatio_congr (by decide) (by decide) ?_
  rw [show (q - -3).toNat = (q + 3).toNat by omega, show (-3 - q).toNat = (-(q + 3)).toNat by omega]
  simpa using hn
theorem fp_pow {c a x y x' y' : Nat} (h : c * 2 ^ x = a * 2 ^ y) (e : x' + y = x + y') : c * 2 ^ x' = a * 2 ^ y' := by
  have p := Nat.two_pow_pos y
  refine Nat.eq_of_mul_eq_mul_right p ?_
  calc c * 2 ^ x' * 2 ^ y = c * 2 ^ (x' + y) := by rw [Nat.mul_assoc, ← Nat.pow_add]
    _ = c * 2 ^ (x + y') := by rw [e]
    _ = c * 2 ^ x * 2 ^ y' := by rw [Nat.pow_add, Nat.mul_assoc]
    _ = a * 2 ^ y * 2 ^ y' := by rw [h]
    _ = a * 2 ^ y' * 2 ^ y := by rw [Nat.mul_right_comm]
theorem fp_whole {i : Int} {s : Bool} {c : Nat} {q : Int} (hs : i ≠ 0 → s = decide (i < 0)) (h : c * 2 ^ q.toNat = i.natAbs * 2 ^ (-q).toNat) : FP.Core.Whole i (.fin s c q) := by
  show FP.Core.signed s (c * 2 ^ q.toNat) = _
  rw [h, FP.Core.signed_mul]
  congr 1
  by_cases h0 : i = 0
  · subst h0; exact FP.Core.signed_zero s
  · rw [hs h0]
    unfold FP.Core.signed
    by_cases h1 : i < 0
    · simp [h1]; omega
    · simp [h1]; omega
theorem fp_move {i : Int} {s : Bool} {c : Nat} {q : Int} (k : Nat) (h : FP.Core.Whole i (.fin s c q)) : FP.Core.Whole i (.fin s (c * 2 ^ k) (q - k)) := by
  refine fp_whole (fun h0 => FP.Core.whole_sign h h0) ?_
  have hn := FP.Core.whole_natAbs h
  rw [Nat.mul_assoc, ← Nat.pow_add]
  exact fp_pow hn (by omega)
theorem fp_moveB {i : Int} {s : Bool} {c : Nat} {q q' : Int} (k : Nat) (h : FP.Core.Whole i (.fin s c q)) (e : q' = q - k) : FP.Core.Whole i (.fin s (c * 2 ^ k) q') := by
  rw [e]; exact fp_move k h
def fp_S (i : Int) : Prop := i.natAbs < 2 ^ 53
theorem e8d_fin {i : Int} (hi : fp_S i) : ∃ s c q, e8d i = .fin s c q ∧ fp_E i (.fin s c q) ∧ (i = 0 → s = false) := by
  by_cases h0 : i = 0
  · subst h0
    exact ⟨false, 0, FP.Core.b64.qmin, by decide +kernel, by simp [fp_E, fp_up, FP.Core.Whole, FP.Core.signed], fun _ => rfl⟩
  · have ha : i.natAbs ≠ 0 := by omega
    have hl1 := Nat.log2_self_le ha
    have hl2 : i.natAbs < 2 ^ (i.natAbs.log2 + 1) := Nat.lt_log2_self
    have hl3 : i.natAbs.log2 < 53 := (Nat.log2_lt ha).mpr hi
    generalize hk : i.natAbs.log2 = k at *
    have hfit : FP.Core.fits FP.Core.b64 (.fin (decide (i < 0)) (i.natAbs * 2 ^ (52 - k)) (-3 - ((52 - k : Nat) : Int))) := by
      have e1 : 2 ^ (k + 1) * 2 ^ (52 - k) = 2 ^ 53 := by rw [← Nat.pow_add]; congr 1; omega
      have e2 : 2 ^ k * 2 ^ (52 - k) = 2 ^ 52 := by rw [← Nat.pow_add]; congr 1; omega
      have p := Nat.two_pow_pos (52 - k)
      refine ⟨?_, ?_, ?_, Or.inr ?_⟩
      · show _ < 2 ^ 53
        rw [← e1]; exact Nat.mul_lt_mul_of_pos_right hl2 p
      · show (-1074 : Int) ≤ _
        omega
      · show _ ≤ (971 : Int)
        omega
      · show 2 ^ 52 ≤ _
        rw [← e2]; exact Nat.mul_le_mul_right _ hl1
    refine ⟨_, _, _, FP.Core.roundRatio_exact FP.Core.good_b64 (by decide) hfit ?_, ?_, fun h => absurd h h0⟩
    · rw [show (-3 - (-3 - ((52 - k : Nat) : Int))).toNat = 52 - k by omega, show (-3 - ((52 - k : Nat) : Int) - -3).toNat = 0 by omega]
      simp
    · show FP.Core.Whole i (.fin _ _ (-3 - ((52 - k : Nat) : Int) + 3))
      refine fp_moveB (q := 0) (52 - k) (fp_whole (fun _ => rfl) (by simp)) (by omega)
theorem e8_DFin {i : Int} (hi : fp_S i) : FP.Core.DFin (e8 i) := by
  obtain ⟨s, c, q, h, -⟩ := e8d_fin hi
  exact ⟨s, c, q, by rw [e8_val, h]⟩
theorem vf_fin {a : UInt64} (h : FP.Core.DFin a) : vf_n64 a := by
  have h1 := (FP.Core.fin_bits a).mp h
  show a &&& 0x7fffffffffffffff ≤ 0x7ff0000000000000
  rw [UInt64.le_iff_toNat_le, UInt64.toNat_and]
  rw [show (0x7fffffffffffffff : UInt64).toNat = 2 ^ 63 - 1 from rfl, Nat.and_two_pow_sub_one_eq_mod, show (0x7ff0000000000000 : UInt64).toNat = 9218868437227405312 from rfl]
  exact Nat.le_of_lt h1
theorem e8_vf {i : Int} (hi : fp_S i) : vf_n64 (e8 i) := vf_fin (e8_DFin hi)
theorem e8_add {a b : Int} (ha : fp_S a) (hb : fp_S b) : FP.dadd (e8 a) (e8 b) = e8 (a + b) := by
  obtain ⟨s, c, q, e1, h1, z1⟩ := e8d_fin ha
  obtain ⟨t, d, r, e2, h2, z2⟩ := e8d_fin hb
  show FP.Core.of64 (FP.Core.round FP.Core.b64 (FP.Core.exactSum (FP.Core.val64 (e8 a)) (FP.Core.val64 (e8 b)))) = _
  rw [e8_val, e8_val, e1, e2]
  have hw := FP.Core.whole_sum (show FP.Core.Whole a (.fin s c (q + 3)) from h1) (show FP.Core.Whole b (.fin t d (r + 3)) from h2)
  have eu : FP.Core.sumUnits s c (q + 3) t d (r + 3) (min (q + 3) (r + 3)) = FP.Core.sumUnits s c q t d r (min q r) := by
    unfold FP.Core.sumUnits FP.Core.inUnits
    rw [show (q + 3 - min (q + 3) (r + 3)) = q - min q r by omega, show (r + 3 - min (q + 3) (r + 3)) = r - min q r by omega]
  have hsum : FP.Core.exactSum (.fin s c q) (.fin t d r) = .fin (FP.Core.sumSign s t (FP.Core.sumUnits s c q t d r (min q r))) (FP.Core.sumUnits s c q t d r (min q r)).natAbs (min q r) := rfl
  have hsum3 : FP.Core.exactSum (.fin s c (q + 3)) (.fin t d (r + 3)) = .fin (FP.Core.sumSign s t (FP.Core.sumUnits s c q t d r (min q r))) (FP.Core.sumUnits s c q t d r (min q r)).natAbs (min q r + 3) := by
    show FP.Core.Datum.fin _ _ _ = _
    rw [eu, show min (q + 3) (r + 3) = min q r + 3 by omega]
  rw [hsum3] at hw
  rw [hsum]
  refine congrArg FP.Core.of64 (fp_round hw (fun h0 => ?_))
  have hc := (FP.Core.whole_zero hw).mpr h0
  unfold FP.Core.sumSign
  rw [if_pos (by omega)]
  by_cases ha0 : a = 0
  · rw [z1 ha0]; rfl
  · have hb0 : b ≠ 0 := by omega
    rw [FP.Core.whole_sign (show FP.Core.Whole a (.fin s c (q + 3)) from h1) ha0, FP.Core.whole_sign (show FP.Core.Whole b (.fin t d (r + 3)) from h2) hb0, Bool.and_eq_false_iff]
    simp; omega
theorem fp_c0125 : FP.Core.val64 4593671619917905920 = .fin false (2 ^ 52) (-55) := by decide +kernel
theorem fp_c8 : FP.Core.val64 4620693217682128896 = .fin false (2 ^ 52) (-49) := by decide +kernel
theorem d8_eq (n : Int32) : d8 n = e8 n.toInt := by
  obtain ⟨s, c, q, e⟩ := FP.Core.i2d_fin n
  have hw := FP.Core.i2d_int n
  unfold FP.Core.DInt at hw
  rw [e] at hw
  have hsz : n.toInt = 0 → s = false := by
    intro h0
    obtain ⟨c', q', e'⟩ := FP.Core.l2d_shape n.toInt64
    rw [← FP.Core.i2d_l2d, e, Int32.toInt_toInt64, h0] at e'
    cases e'; rfl
  show FP.Core.of64 (FP.Core.round FP.Core.b64 (FP.Core.exactProduct (FP.Core.val64 (FP.i2d n)) (FP.Core.val64 4593671619917905920))) = _
  rw [e, fp_c0125]
  show FP.Core.of64 (FP.Core.round FP.Core.b64 (.fin (s != false) (c * 2 ^ 52) (q + -55))) = _
  rw [Bool.bne_false]
  exact congrArg FP.Core.of64 (fp_round (fp_moveB 52 hw (by omega)) hsz)
theorem fp_S32 (n : Int32) : fp_S n.toInt := by
  have h1 := n.toInt_lt
  have h2 := n.le_toInt
  unfold fp_S
  omega
theorem d8_vf (n : Int32) : vf_n64 (d8 n) := by rw [d8_eq]; exact e8_vf (fp_S32 n)
theorem e8_mul8 {a : Int} (ha : fp_S a) : FP.Core.Whole a (FP.Core.val64 (FP.dmul (e8 a) 4620693217682128896)) := by
  obtain ⟨s, c, q, e1, h1, z1⟩ := e8d_fin ha
  show FP.Core.Whole a (FP.Core.val64 (FP.Core.dmul (e8 a) 4620693217682128896))
  rw [FP.Core.val64_dmul, e8_val, e1, fp_c8]
  refine FP.Core.whole_round FP.Core.good_b64 FP.Core.wide_b64 (Nat.le_of_lt ha) ?_
  show FP.Core.Whole a (.fin (s != false) (c * 2 ^ 52) (q + -49))
  rw [Bool.bne_false]
  exact fp_moveB 52 (show FP.Core.Whole a (.fin s c (q + 3)) from h1) (by omega)
theorem e8_back (n : Int32) : FP.d2l (FP.dmul (d8 n) 4620693217682128896) = n.toInt64 := by
  rw [d8_eq]
  refine FP.Core.d2l_int (a := n.toInt64) ?_
  unfold FP.Core.DInt
  rw [Int32.toInt_toInt64]
  exact e8_mul8 (fp_S32 n)
theorem fp_whole_fin {a : Int} {d : UInt64} (h : FP.Core.Whole a (FP.Core.val64 d)) : FP.Core.DFin d := by
  cases e : FP.Core.val64 d with
  | nan => rw [e] at h; exact h.elim
  | inf s => rw [e] at h; exact h.elim
  | fin s c q => exact ⟨s, c, q, e⟩
theorem e8_mul8_vf (n : Int32) : vf_n64 (FP.dmul (d8 n) 4620693217682128896) := by
  rw [d8_eq]; exact vf_fin (fp_whole_fin (e8_mul8 (fp_S32 n)))
theorem e8_div {a : Int64} (ha : fp_S a.toInt) : FP.ddiv (FP.l2d a) 4620693217682128896 = e8 a.toInt := by
  obtain ⟨c, q, e⟩ := FP.Core.l2d_shape a
  have hw := FP.Core.l2d_int (a := a) (Nat.le_of_lt ha)
  unfold FP.Core.DInt at hw
  rw [e] at hw
  have hn := FP.Core.whole_natAbs hw
  show FP.Core.of64 (FP.Core.quotient FP.Core.b64 (FP.Core.val64 (FP.l2d a)) (FP.Core.val64 4620693217682128896)) = _
  rw [e, fp_c8]
  show FP.Core.of64 (FP.Core.roundRatio FP.Core.b64 (decide (a.toInt < 0) != false) c (2 ^ 52) (q - -49)) = FP.Core.of64 (FP.Core.roundRatio FP.Core.b64 (decide (a.toInt < 0)) a.toInt.natAbs 1 (-3))
  rw [Bool.bne_false]
  refine congrArg FP.Core.of64 (FP.Core.roundRatio_congr (by decide) (by decide) ?_)
  rw [Nat.mul_one, Nat.mul_assoc, ← Nat.pow_add]
  exact fp_pow hn (by omega)
theorem e8_cmp {a b : Int} (ha : fp_S a) (hb : fp_S b) : FP.dcmp (e8 a) (e8 b) = some (compare a b) := by
  obtain ⟨s, c, q, e1, h1, z1⟩ := e8d_fin ha
  obtain ⟨t, d, r, e2, h2, z2⟩ := e8d_fin hb
  have h := FP.Core.order_whole (show FP.Core.Whole a (.fin s c (q + 3)) from h1) (show FP.Core.Whole b (.fin t d (r + 3)) from h2)
  show FP.Core.order (FP.Core.val64 (e8 a)) (FP.Core.val64 (e8 b)) = _
  rw [e8_val, e8_val, e1, e2, ← h]
  show some (compare _ _) = some (compare _ _)
  unfold FP.Core.inUnits
  rw [show (q + 3 - min (q + 3) (r + 3)) = q - min q r by omega, show (r + 3 - min (q + 3) (r + 3)) = r - min q r by omega]
theorem fp_cMax : FP.Core.val64 18442240474082181119 = .fin true (2 ^ 53 - 1) 971 := by decide +kernel
set_option maxRecDepth 20000 in
theorem e8_max {a : Int} (ha : fp_S a) : FP.dcmp (e8 a) 18442240474082181119 = some .gt := by
  obtain ⟨s, c, q, e1, h1, z1⟩ := e8d_fin ha
  have hm : FP.Core.Whole (-(((2 ^ 53 - 1) * 2 ^ 974 : Nat) : Int)) (.fin true (2 ^ 53 - 1) 974) := by
    show FP.Core.signed true ((2 ^ 53 - 1) * 2 ^ (974 : Int).toNat) = _ * ((2 ^ (-(974 : Int)).toNat : Nat) : Int)
    rw [show (974 : Int).toNat = 974 from rfl, show (-(974 : Int)).toNat = 0 from rfl]
    unfold FP.Core.signed
    simp
  have h := FP.Core.order_whole (show FP.Core.Whole a (.fin s c (q + 3)) from h1) hm
  show FP.Core.order (FP.Core.val64 (e8 a)) (FP.Core.val64 18442240474082181119) = _
  rw [e8_val, e1, fp_cMax]
  have hg : compare a (-(((2 ^ 53 - 1) * 2 ^ 974 : Nat) : Int)) = .gt := by
    have hb : 2 ^ 53 ≤ (2 ^ 53 - 1) * 2 ^ 974 := Nat.le_of_ble_eq_true rfl
    unfold fp_S at ha
    generalize (2 ^ 53 - 1) * 2 ^ 974 = M at hb ⊢
    rw [FP.Core.compare_ite, if_neg (by omega), if_neg (by omega)]
  rw [← hg, ← h]
  show some (compare _ _) = some (compare _ _)
  unfold FP.Core.inUnits
  rw [show (q + 3 - min (q + 3) 974) = q - min q 971 by omega, show ((974 : Int) - min (q + 3) 974) = 971 - min q 971 by omega]
theorem e8_0 : FP.dconst0 = e8 0 := by decide +kernel
theorem cmp_l {a b : Int} (ha : fp_S a) (hb : fp_S b) : Op.cmpValue (FP.dcmp (e8 a) (e8 b)) .l = if a < b then -1 else if a = b then 0 else 1 := by
  rw [e8_cmp ha hb, FP.Core.compare_ite]
  split
  · rfl
  split <;> rfl
theorem cmp_g {a b : Int} (ha : fp_S a) (hb : fp_S b) : Op.cmpValue (FP.dcmp (e8 a) (e8 b)) .g = if a < b then -1 else if a = b then 0 else 1 := by
  rw [e8_cmp ha hb, FP.Core.compare_ite]
  split
  · rfl
  split <;> rfl
