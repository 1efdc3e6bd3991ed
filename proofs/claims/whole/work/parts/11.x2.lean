def thereX (σ : XS) (x : Int32) : Bool := in8 x && decide (¬ σ.1 1 (pn x) = 0)
theorem thereX_of {σ : XS} {x : Int32} (h : thereX σ x = true) : ∃ j : Nat, j < 8 ∧ x = nI j := by
  simp only [thereX, Bool.and_eq_true] at h
  exact in8_of h.1
def x_install (σ : XS) (x : Int32) : Int32 × XS := if in8 x = true ∧ σ.1 1 (pn x) = 0 then (0, xs σ 1 (pn x) 1) else (-1, σ)
def x_state (σ : XS) (x : Int32) : Int32 := if in8 x = true then σ.1 1 (pn x) else -1
def x_unl (σ : XS) (x : Int32) : Nat → XS
  | 0 => σ
  | n + 1 => if (x_unl σ x n).1 12 ((x_unl σ x n).2 n) = x then xs (x_unl σ x n) 11 ((x_unl σ x n).2 n) 0 else x_unl σ x n
theorem x_unl_t {σ : XS} {x : Int32} {n : Nat} (h : (x_unl σ x n).1 12 ((x_unl σ x n).2 n) = x) : x_unl σ x (n + 1) = xs (x_unl σ x n) 11 ((x_unl σ x n).2 n) 0 := if_pos h
theorem x_unl_f {σ : XS} {x : Int32} {n : Nat} (h : ¬ (x_unl σ x n).1 12 ((x_unl σ x n).2 n) = x) : x_unl σ x (n + 1) = x_unl σ x n := if_neg h
theorem x_unl_2 {σ : XS} {x : Int32} {n : Nat} : (x_unl σ x n).2 = σ.2 := by
  induction n with
  | zero => rfl
  | succ n ih =>
    simp only [x_unl]
    split
    · exact ih
    · exact ih
def x_uninstall (σ : XS) (x : Int32) : Int32 × XS := if in8 x = true ∧ σ.1 1 (pn x) = 1 then (0, x_unl (x_clear σ (pn x)) x 16) else (-1, σ)
def bitC1 (x : Int32) : Int32 := x - ((x.toUInt32 >>> ((1 : Int32).toUInt32 &&& Int32.toUInt32 31)).toInt32 &&& 1431655765)
def bitC2 (x : Int32) : Int32 := (x &&& 858993459) + ((x.toUInt32 >>> ((2 : Int32).toUInt32 &&& Int32.toUInt32 31)).toInt32 &&& 858993459)
def bitC3 (x : Int32) : Int32 := (x + (x.toUInt32 >>> ((4 : Int32).toUInt32 &&& Int32.toUInt32 31)).toInt32) &&& 252645135
def bitC4 (x : Int32) : Int32 := x + (x.toUInt32 >>> ((8 : Int32).toUInt32 &&& Int32.toUInt32 31)).toInt32
def bitC5 (x : Int32) : Int32 := x + (x.toUInt32 >>> ((16 : Int32).toUInt32 &&& Int32.toUInt32 31)).toInt32
def bitC (x : Int32) : Int32 := bitC5 (bitC4 (bitC3 (bitC2 (bitC1 x)))) &&& 63
def x_need (σ : XS) (x1 x2 x3 : Int32) : Int32 × XS :=
  if thereX σ x1 = true ∧ in8 x2 = true ∧ ¬ x1 = x2 ∧ ¬ bitb (σ.1 2 (pn x1)) x2 = true ∧ ¬ bitb (σ.1 3 (pn x1)) x2 = true then
    (if x3 = 0 then (bitC (σ.1 2 (pn x1) ||| (1 <<< (x2 &&& 31))) + bitC (σ.1 3 (pn x1)), xs σ 2 (pn x1) (σ.1 2 (pn x1) ||| (1 <<< (x2 &&& 31))))
     else (bitC (σ.1 2 (pn x1)) + bitC (σ.1 3 (pn x1) ||| (1 <<< (x2 &&& 31))), xs σ 3 (pn x1) (σ.1 3 (pn x1) ||| (1 <<< (x2 &&& 31)))))
  else (-1, σ)
def x_serve (σ : XS) (x1 x2 x3 : Int32) : Int32 × XS :=
  if thereX σ x1 = true ∧ ¬ x2 < 0 ∧ x2 ≤ 2 ∧ (x2 = 2 → ¬ x3 < 0 ∧ x3 ≤ 9) then (0, xs (xs σ 4 (pn x1) x2) 5 (pn x1) x3) else (-1, σ)
def isExtX (σ : XS) (x : Int32) : Bool := in16 x && decide (¬ σ.1 11 (pn x) = 0)
theorem isExtX_of {σ : XS} {x : Int32} (h : isExtX σ x = true) : ∃ j : Nat, j < 16 ∧ x = nI j := by
  simp only [isExtX, Bool.and_eq_true] at h
  exact in16_of h.1
def liveX (σ : XS) (e : Nat) : Bool := decide (¬ σ.1 11 e = 0) && (!shutX σ e) && decide (σ.1 1 (pn (σ.1 12 e)) = 2)
def liveAtX (σ : XS) (e : Nat) (x : Int32) : Bool := decide (σ.1 13 e = x) && liveX σ e
def standX (σ : XS) (e : Nat) : Int32 := if shutX σ e = true then 2 else if liveX σ e = true then 1 else 0
def cntX (σ : XS) : Nat → Int32
  | 0 => 0
  | n + 1 => if σ.1 1 n = 2 then cntX σ n + 1 else cntX σ n
def cntS (σ : XS) : Nat → Int32
  | 0 => 0
  | n + 1 => if shutX σ n = true then cntS σ n + 1 else cntS σ n
def x_forgive (σ : XS) (x : Int32) : Int32 × XS := if isExtX σ x = true ∧ shutX σ (pn x) = true then (0, xs σ 17 (pn x) 0) else (-1, σ)
def x_extension (σ : XS) (x w : Int32) : Int32 := if isExtX σ x = true then (if w = 0 then σ.1 12 (pn x) else if w = 1 then σ.1 13 (pn x) else if w = 2 then σ.1 14 (pn x) else if w = 3 then σ.1 17 (pn x) else if w = 4 then σ.1 18 (pn x) else if w = 5 then standX σ (pn x) else -1) else -1
def x_atL (σ : XS) (pt k : Int32) : Nat → Nat → Int32 → Int32
  | 0, _, _ => -1
  | n + 1, i, b => if liveAtX σ (σ.2 i) pt = true then (if b = k then nI (σ.2 i) else x_atL σ pt k n (i + 1) (b + 1)) else x_atL σ pt k n (i + 1) b
def x_at (σ : XS) (pt k : Int32) : Int32 := x_atL σ pt k 16 0 0
def x_ordinal (σ : XS) (x : Int32) : UInt64 := if isExtX σ x = true then d8 (σ.1 16 (pn x)) else FP.dconst0
def x_fault (σ : XS) (k w : Int32) : Int32 := if w = 0 then hlast σ 1 k else if w = 1 then hlast σ 2 k else if w = 2 then hlast σ 3 k else -1
def x_count (σ : XS) (w : Int32) : Int32 := if w = 0 then cntX σ 8 else if w = 1 then σ.1 27 0 else if w = 2 then σ.1 32 0 else if w = 3 then σ.1 30 0 else if w = 4 then cntS σ 16 else -1
theorem kx_ti {x : Int32} {n : Nat} (hn : n < 2 ^ 31) (h : ¬ x = nI n) : x.toInt ≠ n := fun q => h (Int32.toInt_inj.mp (q.trans (nI_toInt hn).symm))
theorem kx_sw2 {x : Int32} (h0 : ¬ x = 0) (h1 : ¬ x = 1) (h2 : ¬ x = 2) : x.toInt < 0 ∨ 2 < x.toInt := by
  have a0 := kx_ti (n := 0) (by omega) h0
  have a1 := kx_ti (n := 1) (by omega) h1
  have a2 := kx_ti (n := 2) (by omega) h2
  omega
theorem kx_sw4 {x : Int32} (h0 : ¬ x = 0) (h1 : ¬ x = 1) (h2 : ¬ x = 2) (h3 : ¬ x = 3) (h4 : ¬ x = 4) : x.toInt < 0 ∨ 4 < x.toInt := by
  have a := kx_sw2 h0 h1 h2
  have a1 := kx_ti (n := 3) (by omega) h3
  have a2 := kx_ti (n := 4) (by omega) h4
  omega
theorem kx_sw5 {x : Int32} (h0 : ¬ x = 0) (h1 : ¬ x = 1) (h2 : ¬ x = 2) (h3 : ¬ x = 3) (h4 : ¬ x = 4) (h5 : ¬ x = 5) : x.toInt < 0 ∨ 5 < x.toInt := by
  have a := kx_sw4 h0 h1 h2 h3 h4
  have a1 := kx_ti (n := 5) (by omega) h5
  omega
theorem kx_sw7 {x : Int32} (h0 : ¬ x = 0) (h1 : ¬ x = 1) (h2 : ¬ x = 2) (h3 : ¬ x = 3) (h4 : ¬ x = 4) (h5 : ¬ x = 5) (h6 : ¬ x = 6) (h7 : ¬ x = 7) : x.toInt < 0 ∨ 7 < x.toInt := by
  have a := kx_sw5 h0 h1 h2 h3 h4 h5
  have a1 := kx_ti (n := 6) (by omega) h6
  have a2 := kx_ti (n := 7) (by omega) h7
  omega
theorem kx_sw8 {x : Int32} (h0 : ¬ x = 0) (h1 : ¬ x = 1) (h2 : ¬ x = 2) (h3 : ¬ x = 3) (h4 : ¬ x = 4) (h5 : ¬ x = 5) (h6 : ¬ x = 6) (h7 : ¬ x = 7) (h8 : ¬ x = 8) : x.toInt < 0 ∨ 8 < x.toInt := by
  have a := kx_sw7 h0 h1 h2 h3 h4 h5 h6 h7
  have a1 := kx_ti (n := 8) (by omega) h8
  omega
set_option maxRecDepth 100000 in
set_option maxHeartbeats 800000 in
theorem cX_isThere (l : Launch) (D : va_G) (cA : Nat → ClassId) {ad : Nat → Nat} (hJ : kw_J 36 ad) (σ : XS) (x1 : Int32) : kx_Met l yX_isThere (.code yX_isThere bX_isThere 2 (Option.some .boolean) :: kw_T) (kw_R 1) D (kx_tys cA) 36 ad (wX cA ad) σ [.ref (ad 0), .int x1] (fun r9 u9 => r9 = some (.int (bI (thereX σ x1 = true))) ∧ σ = u9) := by
  refine kx_of hJ (by decide +kernel) (Nat.le_of_ble_eq_true rfl) ?_
  intro p e s m args below meth c CX ls hl hP hS
  obtain ⟨hx, hb, hr, hml, hown, hts, hlk, hK, hJ1, hZ⟩ := id CX
  have hl : lv_has ls 2 [(0, .ref (ad 0)), (1, .int x1)] := hl
  refine lv_iload_n hx hb dX_isThere_0 rfl (lv_at hl 1 rfl) ?_
  refine kx_callS1 (σ1 := σ) (v := .int (bI (in8 x1 = true))) (n := 1) (As := [.int x1]) (rest := []) CX hP hS hl.1 (cX_isPlugin l D cA hJ σ x1) wl_143 wl_144 wl_1 wl_145 ⟨by decide +kernel, by decide +kernel, by decide +kernel⟩ (kw_R_ok (by omega) (by omega)) ⟨rfl, rfl⟩ rfl rfl (Nat.le_of_ble_eq_true rfl) dX_isThere_1 (fun H locs hP hS => ?_)
  refine lv_if_eq (tgt := 23) hx hb dX_isThere_4 (by decide) (fun c_4 => ?_) (fun c_4 => ?_)
  · have c_4 := bI_eq0.mp c_4
    refine lv_iconst (v := 0) hx hb dX_isThere_23 (by decide) ?_
    exact kx_zret (σ' := σ) CX (by decide) hP hS dX_isThere_24 (by constructor <;> simp [bI, c_4, thereX])
  · have c_4 := bI_ne0.mp c_4
    obtain ⟨j, hj, rfl⟩ := in8_of c_4
    have ej : pn (nI j) = j := pn_nI (by omega)
    refine lv_aload_n hx hb dX_isThere_7 rfl (lv_at hl 0 rfl) ?_
    refine xX_get CX hP 0 (by omega) wl_111 rfl dX_isThere_8 ?_
    refine lv_iload_n hx hb dX_isThere_11 rfl (lv_at hl 1 rfl) ?_
    refine xA_P CX hP j (rfl) (by omega) dX_isThere_12 ?_
    refine xP_get CX hP (by omega) 1 (by omega) wl_44 rfl dX_isThere_13 ?_
    refine lv_if_eq (tgt := 23) hx hb dX_isThere_16 (by decide) (fun c_16 => ?_) (fun c_16 => ?_)
    · skip
      refine lv_iconst (v := 0) hx hb dX_isThere_23 (by decide) ?_
      exact kx_zret (σ' := σ) CX (by decide) hP hS dX_isThere_24 (by constructor <;> simp [bI, c_4, ej, c_16, thereX])
    · skip
      refine lv_iconst (v := 1) hx hb dX_isThere_19 (by decide) ?_
      refine lv_goto (tgt := 24) hx hb dX_isThere_20 (by decide) ?_
      exact kx_zret (σ' := σ) CX (by decide) hP hS dX_isThere_24 (by constructor <;> simp [bI, c_4, ej, c_16, thereX])
set_option maxRecDepth 100000 in
set_option maxHeartbeats 800000 in
theorem cX_install (l : Launch) (D : va_G) (cA : Nat → ClassId) {ad : Nat → Nat} (hJ : kw_J 36 ad) (σ : XS) (x1 : Int32) : kx_Met l yX_install (.code yX_install bX_install 2 (Option.some .int) :: kw_T) (kw_R 1) D (kx_tys cA) 36 ad (wX cA ad) σ [.ref (ad 0), .int x1] (fun r9 u9 => r9 = some (.int ((x_install σ x1).1)) ∧ (x_install σ x1).2 = u9) := by
  refine kx_of hJ (by decide +kernel) (Nat.le_of_ble_eq_true rfl) ?_
  intro p e s m args below meth c CX ls hl hP hS
  obtain ⟨hx, hb, hr, hml, hown, hts, hlk, hK, hJ1, hZ⟩ := id CX
  have hl : lv_has ls 2 [(0, .ref (ad 0)), (1, .int x1)] := hl
  refine lv_iload_n hx hb dX_install_0 rfl (lv_at hl 1 rfl) ?_
  refine kx_callS1 (σ1 := σ) (v := .int (bI (in8 x1 = true))) (n := 1) (As := [.int x1]) (rest := []) CX hP hS hl.1 (cX_isPlugin l D cA hJ σ x1) wl_143 wl_144 wl_1 wl_145 ⟨by decide +kernel, by decide +kernel, by decide +kernel⟩ (kw_R_ok (by omega) (by omega)) ⟨rfl, rfl⟩ rfl rfl (Nat.le_of_ble_eq_true rfl) dX_install_1 (fun H locs hP hS => ?_)
  refine lv_if_eq (tgt := 19) hx hb dX_install_4 (by decide) (fun c_4 => ?_) (fun c_4 => ?_)
  · have c_4 := bI_eq0.mp c_4
    refine lv_iconst (v := (-1)) hx hb dX_install_19 (by decide) ?_
    exact kx_iret (σ' := σ) CX hP hS dX_install_20 (by constructor <;> simp [bI, c_4, x_install])
  · have c_4 := bI_ne0.mp c_4
    obtain ⟨j, hj, rfl⟩ := in8_of c_4
    have ej : pn (nI j) = j := pn_nI (by omega)
    refine lv_aload_n hx hb dX_install_7 rfl (lv_at hl 0 rfl) ?_
    refine xX_get CX hP 0 (by omega) wl_111 rfl dX_install_8 ?_
    refine lv_iload_n hx hb dX_install_11 rfl (lv_at hl 1 rfl) ?_
    refine xA_P CX hP j (rfl) (by omega) dX_install_12 ?_
    refine xP_get CX hP (by omega) 1 (by omega) wl_44 rfl dX_install_13 ?_
    refine lv_if_eq (tgt := 21) hx hb dX_install_16 (by decide) (fun c_16 => ?_) (fun c_16 => ?_)
    · skip
      refine lv_aload_n hx hb dX_install_21 rfl (lv_at hl 0 rfl) ?_
      refine xX_get CX hP 0 (by omega) wl_111 rfl dX_install_22 ?_
      refine lv_iload_n hx hb dX_install_25 rfl (lv_at hl 1 rfl) ?_
      refine xA_P CX hP j (rfl) (by omega) dX_install_26 ?_
      refine lv_iconst (v := 1) hx hb dX_install_27 (by decide) ?_
      refine xP_put CX hP hS (by omega) 1 (by omega) (by omega) wl_44 ⟨rfl, rfl⟩ dX_install_28 (fun H locs hP hS => ?_)
      refine lv_iconst (v := 0) hx hb dX_install_31 (by decide) ?_
      exact kx_iret (σ' := xs σ 1 j 1) CX hP hS dX_install_32 (by constructor <;> simp [bI, c_4, ej, c_16, x_install])
    · skip
      refine lv_iconst (v := (-1)) hx hb dX_install_19 (by decide) ?_
      exact kx_iret (σ' := σ) CX hP hS dX_install_20 (by constructor <;> simp [bI, c_4, ej, c_16, x_install])
set_option maxRecDepth 100000 in
set_option maxHeartbeats 800000 in
theorem cX_state (l : Launch) (D : va_G) (cA : Nat → ClassId) {ad : Nat → Nat} (hJ : kw_J 36 ad) (σ : XS) (x1 : Int32) : kx_Met l yX_state (.code yX_state bX_state 2 (Option.some .int) :: kw_T) (kw_R 1) D (kx_tys cA) 36 ad (wX cA ad) σ [.ref (ad 0), .int x1] (fun r9 u9 => r9 = some (.int (x_state σ x1)) ∧ σ = u9) := by
  refine kx_of hJ (by decide +kernel) (Nat.le_of_ble_eq_true rfl) ?_
  intro p e s m args below meth c CX ls hl hP hS
  obtain ⟨hx, hb, hr, hml, hown, hts, hlk, hK, hJ1, hZ⟩ := id CX
  have hl : lv_has ls 2 [(0, .ref (ad 0)), (1, .int x1)] := hl
  refine lv_iload_n hx hb dX_state_0 rfl (lv_at hl 1 rfl) ?_
  refine kx_callS1 (σ1 := σ) (v := .int (bI (in8 x1 = true))) (n := 1) (As := [.int x1]) (rest := []) CX hP hS hl.1 (cX_isPlugin l D cA hJ σ x1) wl_143 wl_144 wl_1 wl_145 ⟨by decide +kernel, by decide +kernel, by decide +kernel⟩ (kw_R_ok (by omega) (by omega)) ⟨rfl, rfl⟩ rfl rfl (Nat.le_of_ble_eq_true rfl) dX_state_1 (fun H locs hP hS => ?_)
  refine lv_if_eq (tgt := 19) hx hb dX_state_4 (by decide) (fun c_4 => ?_) (fun c_4 => ?_)
  · have c_4 := bI_eq0.mp c_4
    refine lv_iconst (v := (-1)) hx hb dX_state_19 (by decide) ?_
    exact kx_iret (σ' := σ) CX hP hS dX_state_20 (by constructor <;> simp [bI, c_4, x_state])
  · have c_4 := bI_ne0.mp c_4
    obtain ⟨j, hj, rfl⟩ := in8_of c_4
    have ej : pn (nI j) = j := pn_nI (by omega)
    refine lv_aload_n hx hb dX_state_7 rfl (lv_at hl 0 rfl) ?_
    refine xX_get CX hP 0 (by omega) wl_111 rfl dX_state_8 ?_
    refine lv_iload_n hx hb dX_state_11 rfl (lv_at hl 1 rfl) ?_
    refine xA_P CX hP j (rfl) (by omega) dX_state_12 ?_
    refine xP_get CX hP (by omega) 1 (by omega) wl_44 rfl dX_state_13 ?_
    refine lv_goto (tgt := 20) hx hb dX_state_16 (by decide) ?_
    exact kx_iret (σ' := σ) CX hP hS dX_state_20 (by constructor <;> simp [bI, c_4, ej, x_state])
set_option maxRecDepth 100000 in
set_option maxHeartbeats 800000 in
theorem cX_uninstall (l : Launch) (D : va_G) (cA : Nat → ClassId) {ad : Nat → Nat} (hJ : kw_J 36 ad) (σ : XS) (x1 : Int32) (hO : ∀ k, k < 16 → σ.2 k < 16) : kx_Met l yX_uninstall (.code yX_uninstall bX_uninstall 6 (Option.some .int) :: kw_T) (kw_R 1) D (kx_tys cA) 36 ad (wX cA ad) σ [.ref (ad 0), .int x1] (fun r9 u9 => r9 = some (.int ((x_uninstall σ x1).1)) ∧ (x_uninstall σ x1).2 = u9) := by
  refine kx_of hJ (by decide +kernel) (Nat.le_of_ble_eq_true rfl) ?_
  intro p e s m args below meth c CX ls hl hP hS
  obtain ⟨hx, hb, hr, hml, hown, hts, hlk, hK, hJ1, hZ⟩ := id CX
  have hl : lv_has ls 6 [(0, .ref (ad 0)), (1, .int x1)] := hl
  refine lv_iload_n hx hb dX_uninstall_0 rfl (lv_at hl 1 rfl) ?_
  refine kx_callS1 (σ1 := σ) (v := .int (bI (in8 x1 = true))) (n := 1) (As := [.int x1]) (rest := []) CX hP hS hl.1 (cX_isPlugin l D cA hJ σ x1) wl_143 wl_144 wl_1 wl_145 ⟨by decide +kernel, by decide +kernel, by decide +kernel⟩ (kw_R_ok (by omega) (by omega)) ⟨rfl, rfl⟩ rfl rfl (Nat.le_of_ble_eq_true rfl) dX_uninstall_1 (fun H locs hP hS => ?_)
  refine lv_if_eq (tgt := 20) hx hb dX_uninstall_4 (by decide) (fun c_4 => ?_) (fun c_4 => ?_)
  · have c_4 := bI_eq0.mp c_4
    refine lv_iconst (v := (-1)) hx hb dX_uninstall_20 (by decide) ?_
    exact kx_iret (σ' := σ) CX hP hS dX_uninstall_21 (by constructor <;> simp [bI, c_4, x_uninstall])
  · have c_4 := bI_ne0.mp c_4
    obtain ⟨j, hj, rfl⟩ := in8_of c_4
    have ej : pn (nI j) = j := pn_nI (by omega)
    refine lv_aload_n hx hb dX_uninstall_7 rfl (lv_at hl 0 rfl) ?_
    refine xX_get CX hP 0 (by omega) wl_111 rfl dX_uninstall_8 ?_
    refine lv_iload_n hx hb dX_uninstall_11 rfl (lv_at hl 1 rfl) ?_
    refine xA_P CX hP j (rfl) (by omega) dX_uninstall_12 ?_
    refine xP_get CX hP (by omega) 1 (by omega) wl_44 rfl dX_uninstall_13 ?_
    refine lv_iconst (v := 1) hx hb dX_uninstall_16 (by decide) ?_
    refine lv_icmp_eq (tgt := 22) hx hb dX_uninstall_17 (by decide) (fun c_17 => ?_) (fun c_17 => ?_)
    · skip
      refine lv_aload_n hx hb dX_uninstall_22 rfl (lv_at hl 0 rfl) ?_
      refine xX_get CX hP 0 (by omega) wl_111 rfl dX_uninstall_23 ?_
      refine lv_iload_n hx hb dX_uninstall_26 rfl (lv_at hl 1 rfl) ?_
      refine xA_P CX hP j (rfl) (by omega) dX_uninstall_27 ?_
      refine kx_callV0 (σ1 := x_clear σ j) (n := 0) (As := []) (rest := []) CX hP hS hl.1 (cP_clear l D cA hJ σ j (by omega)) wl_150 wl_151 wl_152 wl_3 wl_153 ⟨rfl, by decide +kernel, by decide +kernel, by decide +kernel⟩ (kw_R_ok (by omega) (by omega)) ⟨rfl, rfl⟩ (k := 12 + j) (by omega) (wX_aP (by omega)) rfl rfl rfl rfl (Nat.le_of_ble_eq_true rfl) dX_uninstall_28 (fun H locs hP hS => ?_)
      refine lv_aload_n hx hb dX_uninstall_31 rfl (lv_at hl 0 rfl) ?_
      refine xX_get CX hP 2 (by omega) wl_113 rfl dX_uninstall_32 ?_
      refine lv_astore_n (lv' := [(2, .ref (ad 3)), (0, .ref (ad 0)), (1, .int (nI j))]) hx hb dX_uninstall_35 rfl hl (by decide) rfl (fun ls hl => ?_)
      refine lv_aload_n hx hb dX_uninstall_36 rfl (lv_at hl 0 rfl) ?_
      refine kx_alen (v := 16) CX hP (k := 3) (t0 := 4) (by omega) rfl rfl rfl rfl dX_uninstall_37 ?_
      refine lv_istore_n (lv' := [(3, .int 16), (2, .ref (ad 3)), (0, .ref (ad 0)), (1, .int (nI j))]) hx hb dX_uninstall_38 rfl hl (by decide) rfl (fun ls hl => ?_)
      refine lv_iconst (v := 0) hx hb dX_uninstall_39 (by decide) ?_
      refine lv_istore (lv' := [(4, .int 0), (3, .int 16), (2, .ref (ad 3)), (0, .ref (ad 0)), (1, .int (nI j))]) hx hb dX_uninstall_40 hl (by decide) rfl (fun ls hl => ?_)
      have loop_42 : ∀ (fu : Nat) (i : Nat) (u : XS), (i ≤ 16) → (u = x_unl (x_clear σ j) (nI j) i) → 16 - i < fu → ∀ (H : Heap) (locs : List Loc), va_P D classes (kw_W 36 ad (wX cA ad u)) H → va_S (kw_A 36 ad s.heap.size) s.heap H locs → ∀ (ls : Array Slot), lv_has ls 6 [(0, .ref (ad 0)), (1, .int (nI j)), (2, .ref (ad 3)), (3, .int 16), (4, .int (nI i))] → W p l e (kw_R 1) s m args below meth c H locs 0 0 (kx_Q below D 36 ad (wX cA ad) (fun r9 u9 => r9 = some (.int ((x_uninstall σ (nI j)).1)) ∧ (x_uninstall σ (nI j)).2 = u9) args s) (F0 m 42 ls []) := by
        intro fu42
        induction fu42 with
        | zero => intro i u hi hu hm42; exact absurd hm42 (Nat.not_lt_zero _)
        | succ fu42 ih42 =>
          intro i u hi hu hm42 H locs hP hS ls hl
          have hO2 : ∀ k, k < 16 → u.2 k < 16 := by rw [hu, x_unl_2]; exact hO
          refine lv_iload hx hb dX_uninstall_42 (lv_at hl 4 rfl) ?_
          refine lv_iload_n hx hb dX_uninstall_44 rfl (lv_at hl 3 rfl) ?_
          refine lv_icmp_ge (tgt := 75) hx hb dX_uninstall_45 (by decide) (fun c_45 => ?_) (fun c_45 => ?_)
          · have c_45i := c_45
            have c_45 : 16 ≤ i := (nI_le' (a := 16) (b := i) (by omega) (by omega)).mp c_45
            refine lv_iconst (v := 0) hx hb dX_uninstall_75 (by decide) ?_
            exact kx_iret (σ' := u) CX hP hS dX_uninstall_76 (by (have hi16 : i = 16 := by omega); subst hi16; rw [hu]; constructor <;> simp [x_uninstall, c_4, c_17, ej])
          · have c_45i := c_45
            have c_45 : ¬ (16 ≤ i) := fun hq9 => c_45 ((nI_le' (a := 16) (b := i) (by omega) (by omega)).mpr hq9)
            refine lv_aload_n hx hb dX_uninstall_48 rfl (lv_at hl 2 rfl) ?_
            refine lv_iload hx hb dX_uninstall_49 (lv_at hl 4 rfl) ?_
            refine xA_O CX hP i (rfl) (by omega) dX_uninstall_51 ?_
            refine lv_astore (lv' := [(5, .ref (ad (20 + (u.2 i)))), (0, .ref (ad 0)), (1, .int (nI j)), (2, .ref (ad 3)), (3, .int 16), (4, .int (nI i))]) hx hb dX_uninstall_52 hl (by decide) rfl (fun ls hl => ?_)
            refine lv_aload hx hb dX_uninstall_54 (lv_at hl 0 rfl) ?_
            refine xE_get CX hP (hO2 _ (by omega)) 2 (by omega) wl_84 rfl dX_uninstall_56 ?_
            refine lv_iload_n hx hb dX_uninstall_59 rfl (lv_at hl 2 rfl) ?_
            refine lv_icmp_ne (tgt := 69) hx hb dX_uninstall_60 (by decide) (fun c_60 => ?_) (fun c_60 => ?_)
            · skip
              refine lv_iinc (v := nI (i + 1)) (lv' := [(4, .int (nI (i + 1))), (5, .ref (ad (20 + (u.2 i)))), (0, .ref (ad 0)), (1, .int (nI j)), (2, .ref (ad 3)), (3, .int 16)]) hx hb dX_uninstall_69 hl (k := 5) rfl (nI_i1 i) (by decide) rfl (fun ls hl => ?_)
              refine lv_goto (tgt := 42) hx hb dX_uninstall_72 (by decide) ?_
              exact ih42 (i + 1) u (by omega) (by rw [hu] at c_60 ⊢; exact (x_unl_f c_60).symm) (by omega) _ _ hP hS ls (lv_sub hl [2, 3, 4, 5, 0] rfl)
            · skip
              refine lv_aload hx hb dX_uninstall_63 (lv_at hl 0 rfl) ?_
              refine lv_iconst (v := 0) hx hb dX_uninstall_65 (by decide) ?_
              refine xE_put CX hP hS (hO2 _ (by omega)) 1 (by omega) (by omega) (by omega) wl_83 ⟨rfl, rfl⟩ dX_uninstall_66 (fun H locs hP hS => ?_)
              refine lv_iinc (v := nI (i + 1)) (lv' := [(4, .int (nI (i + 1))), (5, .ref (ad (20 + (u.2 i)))), (0, .ref (ad 0)), (1, .int (nI j)), (2, .ref (ad 3)), (3, .int 16)]) hx hb dX_uninstall_69 hl (k := 5) rfl (nI_i1 i) (by decide) rfl (fun ls hl => ?_)
              refine lv_goto (tgt := 42) hx hb dX_uninstall_72 (by decide) ?_
              exact ih42 (i + 1) (xs u 11 ((u.2 i)) 0) (by omega) (by rw [hu] at c_60 ⊢; exact (x_unl_t c_60).symm) (by omega) _ _ hP hS ls (lv_sub hl [2, 3, 4, 5, 0] rfl)
      exact loop_42 ((16 - 0) + 1) 0 (x_clear σ j) (by omega) rfl (Nat.lt_succ_self _) _ _ hP hS ls (lv_sub hl [3, 4, 2, 1, 0] rfl)
    · skip
      refine lv_iconst (v := (-1)) hx hb dX_uninstall_20 (by decide) ?_
      exact kx_iret (σ' := σ) CX hP hS dX_uninstall_21 (by constructor <;> simp [bI, c_4, ej, c_17, x_uninstall])
set_option maxRecDepth 100000 in
set_option maxHeartbeats 800000 in
theorem cI_bitCount (l : Launch) (D : va_G) (cA : Nat → ClassId) {ad : Nat → Nat} (hJ : kw_J 36 ad) (σ : XS) (x1 : Int32) : kx_Met l yI_bitCount (.code yI_bitCount bI_bitCount 1 (Option.some .int) :: kw_T) (kw_R 0) D (kx_tys cA) 36 ad (wX cA ad) σ [.int x1] (fun r9 u9 => r9 = some (.int (bitC x1)) ∧ σ = u9) := by
  refine kx_of hJ (by decide +kernel) (Nat.le_of_ble_eq_true rfl) ?_
  intro p e s m args below meth c CX ls hl hP hS
  obtain ⟨hx, hb, hr, hml, hown, hts, hlk, hK, hJ1, hZ⟩ := id CX
  have hl : lv_has ls 1 [(0, .int x1)] := hl
  refine lv_iload_n hx hb dI_bitCount_0 rfl (lv_at hl 0 rfl) ?_
  refine lv_iload_n hx hb dI_bitCount_1 rfl (lv_at hl 0 rfl) ?_
  refine lv_iconst (v := 1) hx hb dI_bitCount_2 (by decide) ?_
  refine lv_iushr hx hb dI_bitCount_3 rfl ?_
  refine lv_ldcw (v := 1431655765) hx hb hown (hts _ wl_173) dI_bitCount_4 ?_
  refine lv_iand hx hb dI_bitCount_7 ?_
  refine lv_isub hx hb dI_bitCount_8 ?_
  refine lv_istore_n (lv' := [(0, .int (x1 - (((x1.toUInt32 >>> ((1 : Int32).toUInt32 &&& Int32.toUInt32 31)).toInt32) &&& 1431655765)))]) hx hb dI_bitCount_9 rfl hl (by decide) rfl (fun ls hl => ?_)
  refine lv_iload_n hx hb dI_bitCount_10 rfl (lv_at hl 0 rfl) ?_
  refine lv_ldcw (v := 858993459) hx hb hown (hts _ wl_174) dI_bitCount_11 ?_
  refine lv_iand hx hb dI_bitCount_14 ?_
  refine lv_iload_n hx hb dI_bitCount_15 rfl (lv_at hl 0 rfl) ?_
  refine lv_iconst (v := 2) hx hb dI_bitCount_16 (by decide) ?_
  refine lv_iushr hx hb dI_bitCount_17 rfl ?_
  refine lv_ldcw (v := 858993459) hx hb hown (hts _ wl_174) dI_bitCount_18 ?_
  refine lv_iand hx hb dI_bitCount_21 ?_
  refine lv_iadd hx hb dI_bitCount_22 ?_
  refine lv_istore_n (lv' := [(0, .int (((x1 - (((x1.toUInt32 >>> ((1 : Int32).toUInt32 &&& Int32.toUInt32 31)).toInt32) &&& 1431655765)) &&& 858993459) + ((((x1 - (((x1.toUInt32 >>> ((1 : Int32).toUInt32 &&& Int32.toUInt32 31)).toInt32) &&& 1431655765)).toUInt32 >>> ((2 : Int32).toUInt32 &&& Int32.toUInt32 31)).toInt32) &&& 858993459)))]) hx hb dI_bitCount_23 rfl hl (by decide) rfl (fun ls hl => ?_)
  refine lv_iload_n hx hb dI_bitCount_24 rfl (lv_at hl 0 rfl) ?_
  refine lv_iload_n hx hb dI_bitCount_25 rfl (lv_at hl 0 rfl) ?_
  refine lv_iconst (v := 4) hx hb dI_bitCount_26 (by decide) ?_
  refine lv_iushr hx hb dI_bitCount_27 rfl ?_
  refine lv_iadd hx hb dI_bitCount_28 ?_
  refine lv_ldcw (v := 252645135) hx hb hown (hts _ wl_175) dI_bitCount_29 ?_
  refine lv_iand hx hb dI_bitCount_32 ?_
  refine lv_istore_n (lv' := [(0, .int (((((x1 - (((x1.toUInt32 >>> ((1 : Int32).toUInt32 &&& Int32.toUInt32 31)).toInt32) &&& 1431655765)) &&& 858993459) + ((((x1 - (((x1.toUInt32 >>> ((1 : Int32).toUInt32 &&& Int32.toUInt32 31)).toInt32) &&& 1431655765)).toUInt32 >>> ((2 : Int32).toUInt32 &&& Int32.toUInt32 31)).toInt32) &&& 858993459)) + (((((x1 - (((x1.toUInt32 >>> ((1 : Int32).toUInt32 &&& Int32.toUInt32 31)).toInt32) &&& 1431655765)) &&& 858993459) + ((((x1 - (((x1.toUInt32 >>> ((1 : Int32).toUInt32 &&& Int32.toUInt32 31)).toInt32) &&& 1431655765)).toUInt32 >>> ((2 : Int32).toUInt32 &&& Int32.toUInt32 31)).toInt32) &&& 858993459)).toUInt32 >>> ((4 : Int32).toUInt32 &&& Int32.toUInt32 31)).toInt32)) &&& 252645135))]) hx hb dI_bitCount_33 rfl hl (by decide) rfl (fun ls hl => ?_)
  refine lv_iload_n hx hb dI_bitCount_34 rfl (lv_at hl 0 rfl) ?_
  refine lv_iload_n hx hb dI_bitCount_35 rfl (lv_at hl 0 rfl) ?_
  refine lv_bipush (v := 8) hx hb dI_bitCount_36 (by decide) ?_
  refine lv_iushr hx hb dI_bitCount_38 rfl ?_
  refine lv_iadd hx hb dI_bitCount_39 ?_
  refine lv_istore_n (lv' := [(0, .int ((((((x1 - (((x1.toUInt32 >>> ((1 : Int32).toUInt32 &&& Int32.toUInt32 31)).toInt32) &&& 1431655765)) &&& 858993459) + ((((x1 - (((x1.toUInt32 >>> ((1 : Int32).toUInt32 &&& Int32.toUInt32 31)).toInt32) &&& 1431655765)).toUInt32 >>> ((2 : Int32).toUInt32 &&& Int32.toUInt32 31)).toInt32) &&& 858993459)) + (((((x1 - (((x1.toUInt32 >>> ((1 : Int32).toUInt32 &&& Int32.toUInt32 31)).toInt32) &&& 1431655765)) &&& 858993459) + ((((x1 - (((x1.toUInt32 >>> ((1 : Int32).toUInt32 &&& Int32.toUInt32 31)).toInt32) &&& 1431655765)).toUInt32 >>> ((2 : Int32).toUInt32 &&& Int32.toUInt32 31)).toInt32) &&& 858993459)).toUInt32 >>> ((4 : Int32).toUInt32 &&& Int32.toUInt32 31)).toInt32)) &&& 252645135) + (((((((x1 - (((x1.toUInt32 >>> ((1 : Int32).toUInt32 &&& Int32.toUInt32 31)).toInt32) &&& 1431655765)) &&& 858993459) + ((((x1 - (((x1.toUInt32 >>> ((1 : Int32).toUInt32 &&& Int32.toUInt32 31)).toInt32) &&& 1431655765)).toUInt32 >>> ((2 : Int32).toUInt32 &&& Int32.toUInt32 31)).toInt32) &&& 858993459)) + (((((x1 - (((x1.toUInt32 >>> ((1 : Int32).toUInt32 &&& Int32.toUInt32 31)).toInt32) &&& 1431655765)) &&& 858993459) + ((((x1 - (((x1.toUInt32 >>> ((1 : Int32).toUInt32 &&& Int32.toUInt32 31)).toInt32) &&& 1431655765)).toUInt32 >>> ((2 : Int32).toUInt32 &&& Int32.toUInt32 31)).toInt32) &&& 858993459)).toUInt32 >>> ((4 : Int32).toUInt32 &&& Int32.toUInt32 31)).toInt32)) &&& 252645135).toUInt32 >>> ((8 : Int32).toUInt32 &&& Int32.toUInt32 31)).toInt32)))]) hx hb dI_bitCount_40 rfl hl (by decide) rfl (fun ls hl => ?_)
  refine lv_iload_n hx hb dI_bitCount_41 rfl (lv_at hl 0 rfl) ?_
  refine lv_iload_n hx hb dI_bitCount_42 rfl (lv_at hl 0 rfl) ?_
  refine lv_bipush (v := 16) hx hb dI_bitCount_43 (by decide) ?_
  refine lv_iushr hx hb dI_bitCount_45 rfl ?_
  refine lv_iadd hx hb dI_bitCount_46 ?_
  refine lv_istore_n (lv' := [(0, .int (((((((x1 - (((x1.toUInt32 >>> ((1 : Int32).toUInt32 &&& Int32.toUInt32 31)).toInt32) &&& 1431655765)) &&& 858993459) + ((((x1 - (((x1.toUInt32 >>> ((1 : Int32).toUInt32 &&& Int32.toUInt32 31)).toInt32) &&& 1431655765)).toUInt32 >>> ((2 : Int32).toUInt32 &&& Int32.toUInt32 31)).toInt32) &&& 858993459)) + (((((x1 - (((x1.toUInt32 >>> ((1 : Int32).toUInt32 &&& Int32.toUInt32 31)).toInt32) &&& 1431655765)) &&& 858993459) + ((((x1 - (((x1.toUInt32 >>> ((1 : Int32).toUInt32 &&& Int32.toUInt32 31)).toInt32) &&& 1431655765)).toUInt32 >>> ((2 : Int32).toUInt32 &&& Int32.toUInt32 31)).toInt32) &&& 858993459)).toUInt32 >>> ((4 : Int32).toUInt32 &&& Int32.toUInt32 31)).toInt32)) &&& 252645135) + (((((((x1 - (((x1.toUInt32 >>> ((1 : Int32).toUInt32 &&& Int32.toUInt32 31)).toInt32) &&& 1431655765)) &&& 858993459) + ((((x1 - (((x1.toUInt32 >>> ((1 : Int32).toUInt32 &&& Int32.toUInt32 31)).toInt32) &&& 1431655765)).toUInt32 >>> ((2 : Int32).toUInt32 &&& Int32.toUInt32 31)).toInt32) &&& 858993459)) + (((((x1 - (((x1.toUInt32 >>> ((1 : Int32).toUInt32 &&& Int32.toUInt32 31)).toInt32) &&& 1431655765)) &&& 858993459) + ((((x1 - (((x1.toUInt32 >>> ((1 : Int32).toUInt32 &&& Int32.toUInt32 31)).toInt32) &&& 1431655765)).toUInt32 >>> ((2 : Int32).toUInt32 &&& Int32.toUInt32 31)).toInt32) &&& 858993459)).toUInt32 >>> ((4 : Int32).toUInt32 &&& Int32.toUInt32 31)).toInt32)) &&& 252645135).toUInt32 >>> ((8 : Int32).toUInt32 &&& Int32.toUInt32 31)).toInt32)) + ((((((((x1 - (((x1.toUInt32 >>> ((1 : Int32).toUInt32 &&& Int32.toUInt32 31)).toInt32) &&& 1431655765)) &&& 858993459) + ((((x1 - (((x1.toUInt32 >>> ((1 : Int32).toUInt32 &&& Int32.toUInt32 31)).toInt32) &&& 1431655765)).toUInt32 >>> ((2 : Int32).toUInt32 &&& Int32.toUInt32 31)).toInt32) &&& 858993459)) + (((((x1 - (((x1.toUInt32 >>> ((1 : Int32).toUInt32 &&& Int32.toUInt32 31)).toInt32) &&& 1431655765)) &&& 858993459) + ((((x1 - (((x1.toUInt32 >>> ((1 : Int32).toUInt32 &&& Int32.toUInt32 31)).toInt32) &&& 1431655765)).toUInt32 >>> ((2 : Int32).toUInt32 &&& Int32.toUInt32 31)).toInt32) &&& 858993459)).toUInt32 >>> ((4 : Int32).toUInt32 &&& Int32.toUInt32 31)).toInt32)) &&& 252645135) + (((((((x1 - (((x1.toUInt32 >>> ((1 : Int32).toUInt32 &&& Int32.toUInt32 31)).toInt32) &&& 1431655765)) &&& 858993459) + ((((x1 - (((x1.toUInt32 >>> ((1 : Int32).toUInt32 &&& Int32.toUInt32 31)).toInt32) &&& 1431655765)).toUInt32 >>> ((2 : Int32).toUInt32 &&& Int32.toUInt32 31)).toInt32) &&& 858993459)) + (((((x1 - (((x1.toUInt32 >>> ((1 : Int32).toUInt32 &&& Int32.toUInt32 31)).toInt32) &&& 1431655765)) &&& 858993459) + ((((x1 - (((x1.toUInt32 >>> ((1 : Int32).toUInt32 &&& Int32.toUInt32 31)).toInt32) &&& 1431655765)).toUInt32 >>> ((2 : Int32).toUInt32 &&& Int32.toUInt32 31)).toInt32) &&& 858993459)).toUInt32 >>> ((4 : Int32).toUInt32 &&& Int32.toUInt32 31)).toInt32)) &&& 252645135).toUInt32 >>> ((8 : Int32).toUInt32 &&& Int32.toUInt32 31)).toInt32)).toUInt32 >>> ((16 : Int32).toUInt32 &&& Int32.toUInt32 31)).toInt32)))]) hx hb dI_bitCount_47 rfl hl (by decide) rfl (fun ls hl => ?_)
  refine lv_iload_n hx hb dI_bitCount_48 rfl (lv_at hl 0 rfl) ?_
  refine lv_bipush (v := 63) hx hb dI_bitCount_49 (by decide) ?_
  refine lv_iand hx hb dI_bitCount_51 ?_
  exact kx_iret (σ' := σ) CX hP hS dI_bitCount_52 (⟨rfl, rfl⟩)
set_option maxRecDepth 100000 in
set_option maxHeartbeats 800000 in
theorem cX_need (l : Launch) (D : va_G) (cA : Nat → ClassId) {ad : Nat → Nat} (hJ : kw_J 36 ad) (σ : XS) (x1 x2 x3 : Int32) : kx_Met l yX_need (.code yX_need bX_need 5 (Option.some .int) :: kw_T) (kw_R 2) D (kx_tys cA) 36 ad (wX cA ad) σ [.ref (ad 0), .int x1, .int x2, .int x3] (fun r9 u9 => r9 = some (.int ((x_need σ x1 x2 x3).1)) ∧ (x_need σ x1 x2 x3).2 = u9) := by
  refine kx_of hJ (by decide +kernel) (Nat.le_of_ble_eq_true rfl) ?_
  intro p e s m args below meth c CX ls hl hP hS
  obtain ⟨hx, hb, hr, hml, hown, hts, hlk, hK, hJ1, hZ⟩ := id CX
  have hl : lv_has ls 5 [(0, .ref (ad 0)), (1, .int x1), (2, .int x2), (3, .int x3)] := hl
  refine lv_aload_n hx hb dX_need_0 rfl (lv_at hl 0 rfl) ?_
  refine lv_iload_n hx hb dX_need_1 rfl (lv_at hl 1 rfl) ?_
  refine kx_callV1 (σ1 := σ) (v := .int (bI (thereX σ x1 = true))) (n := 1) (As := [.int x1]) (rest := []) CX hP hS hl.1 (cX_isThere l D cA hJ σ x1) wl_158 wl_160 wp_0 wl_1 wl_161 ⟨rfl, by decide +kernel, by decide +kernel, by decide +kernel⟩ (kw_R_ok (by omega) (by omega)) ⟨rfl, rfl⟩ (k := 0) (by omega) rfl rfl rfl rfl rfl (Nat.le_of_ble_eq_true rfl) dX_need_2 (fun H locs hP hS => ?_)
  refine lv_if_eq (tgt := 20) hx hb dX_need_5 (by decide) (fun c_5 => ?_) (fun c_5 => ?_)
  · have c_5 := bI_eq0.mp c_5
    refine lv_iconst (v := (-1)) hx hb dX_need_20 (by decide) ?_
    exact kx_iret (σ' := σ) CX hP hS dX_need_21 (by constructor <;> simp [bI, c_5, x_need, xs, upd2_at])
  · have c_5 := bI_ne0.mp c_5
    obtain ⟨j, hj, rfl⟩ := thereX_of c_5
    have ej : pn (nI j) = j := pn_nI (by omega)
    refine lv_iload_n hx hb dX_need_8 rfl (lv_at hl 2 rfl) ?_
    refine kx_callS1 (σ1 := σ) (v := .int (bI (in8 x2 = true))) (n := 1) (As := [.int x2]) (rest := []) CX hP hS hl.1 (cX_isPlugin l D cA hJ σ x2) wl_143 wl_144 wl_1 wl_145 ⟨by decide +kernel, by decide +kernel, by decide +kernel⟩ (kw_R_ok (by omega) (by omega)) ⟨rfl, rfl⟩ rfl rfl (Nat.le_of_ble_eq_true rfl) dX_need_9 (fun H locs hP hS => ?_)
    refine lv_if_eq (tgt := 20) hx hb dX_need_12 (by decide) (fun c_12 => ?_) (fun c_12 => ?_)
    · have c_12 := bI_eq0.mp c_12
      refine lv_iconst (v := (-1)) hx hb dX_need_20 (by decide) ?_
      exact kx_iret (σ' := σ) CX hP hS dX_need_21 (by constructor <;> simp [bI, c_5, ej, c_12, x_need, xs, upd2_at])
    · have c_12 := bI_ne0.mp c_12
      obtain ⟨k, hk, rfl⟩ := in8_of c_12
      have ek : pn (nI k) = k := pn_nI (by omega)
      refine lv_iload_n hx hb dX_need_15 rfl (lv_at hl 1 rfl) ?_
      refine lv_iload_n hx hb dX_need_16 rfl (lv_at hl 2 rfl) ?_
      refine lv_icmp_ne (tgt := 22) hx hb dX_need_17 (by decide) (fun c_17 => ?_) (fun c_17 => ?_)
      · have c_17i := c_17
        have c_17 : ¬ (j = k) := fun hq9 => c_17 ((nI_eq' (a := j) (b := k) (by omega) (by omega)).mpr hq9)
        refine lv_aload_n hx hb dX_need_22 rfl (lv_at hl 0 rfl) ?_
        refine xX_get CX hP 0 (by omega) wl_111 rfl dX_need_23 ?_
        refine lv_iload_n hx hb dX_need_26 rfl (lv_at hl 1 rfl) ?_
        refine xA_P CX hP j (rfl) (by omega) dX_need_27 ?_
        refine lv_astore (lv' := [(4, .ref (ad (12 + j))), (0, .ref (ad 0)), (1, .int (nI j)), (2, .int (nI k)), (3, .int x3)]) hx hb dX_need_28 hl (by decide) rfl (fun ls hl => ?_)
        refine lv_aload hx hb dX_need_30 (lv_at hl 0 rfl) ?_
        refine lv_iload_n hx hb dX_need_32 rfl (lv_at hl 3 rfl) ?_
        refine kx_callV1 (σ1 := σ) (v := .int (bI (bitb (σ.1 2 j) (nI k) = true))) (n := 1) (As := [.int (nI k)]) (rest := []) CX hP hS hl.1 (cP_requires l D cA hJ σ j (by omega) (nI k)) wl_162 wl_163 wl_164 wl_3 wl_165 ⟨rfl, by decide +kernel, by decide +kernel, by decide +kernel⟩ (kw_R_ok (by omega) (by omega)) ⟨rfl, rfl⟩ (k := 12 + j) (by omega) (wX_aP (by omega)) rfl rfl rfl rfl (Nat.le_of_ble_eq_true rfl) dX_need_33 (fun H locs hP hS => ?_)
        refine lv_if_ne (tgt := 48) hx hb dX_need_36 (by decide) (fun c_36 => ?_) (fun c_36 => ?_)
        · have c_36 := bI_ne0.mp c_36
          refine lv_iconst (v := (-1)) hx hb dX_need_48 (by decide) ?_
          exact kx_iret (σ' := σ) CX hP hS dX_need_49 (by constructor <;> simp [bI, c_5, ej, c_12, ek, c_17, c_17i, c_36, x_need, xs, upd2_at])
        · have c_36 := bI_eq0.mp c_36
          refine lv_aload hx hb dX_need_39 (lv_at hl 0 rfl) ?_
          refine lv_iload_n hx hb dX_need_41 rfl (lv_at hl 3 rfl) ?_
          refine kx_callV1 (σ1 := σ) (v := .int (bI (bitb (σ.1 3 j) (nI k) = true))) (n := 1) (As := [.int (nI k)]) (rest := []) CX hP hS hl.1 (cP_wishes l D cA hJ σ j (by omega) (nI k)) wl_166 wl_167 wl_168 wl_3 wl_169 ⟨rfl, by decide +kernel, by decide +kernel, by decide +kernel⟩ (kw_R_ok (by omega) (by omega)) ⟨rfl, rfl⟩ (k := 12 + j) (by omega) (wX_aP (by omega)) rfl rfl rfl rfl (Nat.le_of_ble_eq_true rfl) dX_need_42 (fun H locs hP hS => ?_)
          refine lv_if_eq (tgt := 50) hx hb dX_need_45 (by decide) (fun c_45 => ?_) (fun c_45 => ?_)
          · have c_45 := bI_eq0.mp c_45
            refine lv_iload_n hx hb dX_need_50 rfl (lv_at hl 4 rfl) ?_
            refine lv_if_eq (tgt := 70) hx hb dX_need_51 (by decide) (fun c_51 => ?_) (fun c_51 => ?_)
            · skip
              refine lv_aload hx hb dX_need_70 (lv_at hl 0 rfl) ?_
              refine lv_dup hx hb dX_need_72 rfl ?_
              refine xP_get CX hP (by omega) 2 (by omega) wl_47 rfl dX_need_73 ?_
              refine lv_iconst (v := 1) hx hb dX_need_76 (by decide) ?_
              refine lv_iload_n hx hb dX_need_77 rfl (lv_at hl 3 rfl) ?_
              refine lv_ishl hx hb dX_need_78 ?_
              refine lv_ior hx hb dX_need_79 ?_
              refine xP_put CX hP hS (by omega) 2 (by omega) (by omega) wl_47 ⟨rfl, rfl⟩ dX_need_80 (fun H locs hP hS => ?_)
              refine lv_aload hx hb dX_need_83 (lv_at hl 0 rfl) ?_
              refine xP_get CX hP (by omega) 2 (by omega) wl_47 rfl dX_need_85 ?_
              refine kx_callS1 (σ1 := xs σ 2 j ((σ.1 2 j) ||| (1 <<< ((nI k) &&& 31)))) (v := .int (bitC ((xs σ 2 j ((σ.1 2 j) ||| (1 <<< ((nI k) &&& 31)))).1 2 j))) (n := 1) (As := [.int ((xs σ 2 j ((σ.1 2 j) ||| (1 <<< ((nI k) &&& 31)))).1 2 j)]) (rest := []) CX hP hS hl.1 (cI_bitCount l D cA hJ (xs σ 2 j ((σ.1 2 j) ||| (1 <<< ((nI k) &&& 31)))) ((xs σ 2 j ((σ.1 2 j) ||| (1 <<< ((nI k) &&& 31)))).1 2 j)) wl_170 wl_171 wl_6 wl_172 ⟨by decide +kernel, by decide +kernel, by decide +kernel⟩ (kw_R_ok (by omega) (by omega)) ⟨rfl, rfl⟩ rfl rfl (Nat.le_of_ble_eq_true rfl) dX_need_88 (fun H locs hP hS => ?_)
              refine lv_aload hx hb dX_need_91 (lv_at hl 0 rfl) ?_
              refine xP_get CX hP (by omega) 3 (by omega) wl_49 rfl dX_need_93 ?_
              refine kx_topi (v' := σ.1 3 j) rfl ?_
              refine kx_callS1 (σ1 := xs σ 2 j ((σ.1 2 j) ||| (1 <<< ((nI k) &&& 31)))) (v := .int (bitC (σ.1 3 j))) (n := 1) (As := [.int (σ.1 3 j)]) (rest := [.int (bitC ((xs σ 2 j ((σ.1 2 j) ||| (1 <<< ((nI k) &&& 31)))).1 2 j))]) CX hP hS hl.1 (cI_bitCount l D cA hJ (xs σ 2 j ((σ.1 2 j) ||| (1 <<< ((nI k) &&& 31)))) (σ.1 3 j)) wl_170 wl_171 wl_6 wl_172 ⟨by decide +kernel, by decide +kernel, by decide +kernel⟩ (kw_R_ok (by omega) (by omega)) ⟨rfl, rfl⟩ rfl rfl (Nat.le_of_ble_eq_true rfl) dX_need_96 (fun H locs hP hS => ?_)
              refine lv_iadd hx hb dX_need_99 ?_
              exact kx_iret (σ' := xs σ 2 j ((σ.1 2 j) ||| (1 <<< ((nI k) &&& 31)))) CX hP hS dX_need_100 (by constructor <;> simp [bI, c_5, ej, c_12, ek, c_17, c_17i, c_36, c_45, c_51, x_need, xs, upd2_at])
            · skip
              refine lv_aload hx hb dX_need_54 (lv_at hl 0 rfl) ?_
              refine lv_dup hx hb dX_need_56 rfl ?_
              refine xP_get CX hP (by omega) 3 (by omega) wl_49 rfl dX_need_57 ?_
              refine lv_iconst (v := 1) hx hb dX_need_60 (by decide) ?_
              refine lv_iload_n hx hb dX_need_61 rfl (lv_at hl 3 rfl) ?_
              refine lv_ishl hx hb dX_need_62 ?_
              refine lv_ior hx hb dX_need_63 ?_
              refine xP_put CX hP hS (by omega) 3 (by omega) (by omega) wl_49 ⟨rfl, rfl⟩ dX_need_64 (fun H locs hP hS => ?_)
              refine lv_goto (tgt := 83) hx hb dX_need_67 (by decide) ?_
              refine lv_aload hx hb dX_need_83 (lv_at hl 0 rfl) ?_
              refine xP_get CX hP (by omega) 2 (by omega) wl_47 rfl dX_need_85 ?_
              refine kx_topi (v' := σ.1 2 j) rfl ?_
              refine kx_callS1 (σ1 := xs σ 3 j ((σ.1 3 j) ||| (1 <<< ((nI k) &&& 31)))) (v := .int (bitC (σ.1 2 j))) (n := 1) (As := [.int (σ.1 2 j)]) (rest := []) CX hP hS hl.1 (cI_bitCount l D cA hJ (xs σ 3 j ((σ.1 3 j) ||| (1 <<< ((nI k) &&& 31)))) (σ.1 2 j)) wl_170 wl_171 wl_6 wl_172 ⟨by decide +kernel, by decide +kernel, by decide +kernel⟩ (kw_R_ok (by omega) (by omega)) ⟨rfl, rfl⟩ rfl rfl (Nat.le_of_ble_eq_true rfl) dX_need_88 (fun H locs hP hS => ?_)
              refine lv_aload hx hb dX_need_91 (lv_at hl 0 rfl) ?_
              refine xP_get CX hP (by omega) 3 (by omega) wl_49 rfl dX_need_93 ?_
              refine kx_callS1 (σ1 := xs σ 3 j ((σ.1 3 j) ||| (1 <<< ((nI k) &&& 31)))) (v := .int (bitC ((xs σ 3 j ((σ.1 3 j) ||| (1 <<< ((nI k) &&& 31)))).1 3 j))) (n := 1) (As := [.int ((xs σ 3 j ((σ.1 3 j) ||| (1 <<< ((nI k) &&& 31)))).1 3 j)]) (rest := [.int (bitC (σ.1 2 j))]) CX hP hS hl.1 (cI_bitCount l D cA hJ (xs σ 3 j ((σ.1 3 j) ||| (1 <<< ((nI k) &&& 31)))) ((xs σ 3 j ((σ.1 3 j) ||| (1 <<< ((nI k) &&& 31)))).1 3 j)) wl_170 wl_171 wl_6 wl_172 ⟨by decide +kernel, by decide +kernel, by decide +kernel⟩ (kw_R_ok (by omega) (by omega)) ⟨rfl, rfl⟩ rfl rfl (Nat.le_of_ble_eq_true rfl) dX_need_96 (fun H locs hP hS => ?_)
              refine lv_iadd hx hb dX_need_99 ?_
              exact kx_iret (σ' := xs σ 3 j ((σ.1 3 j) ||| (1 <<< ((nI k) &&& 31)))) CX hP hS dX_need_100 (by constructor <;> simp [bI, c_5, ej, c_12, ek, c_17, c_17i, c_36, c_45, c_51, x_need, xs, upd2_at])
          · have c_45 := bI_ne0.mp c_45
            refine lv_iconst (v := (-1)) hx hb dX_need_48 (by decide) ?_
            exact kx_iret (σ' := σ) CX hP hS dX_need_49 (by constructor <;> simp [bI, c_5, ej, c_12, ek, c_17, c_17i, c_36, c_45, x_need, xs, upd2_at])
      · have c_17i := c_17
        have c_17 : j = k := (nI_eq' (a := j) (b := k) (by omega) (by omega)).mp c_17
        refine lv_iconst (v := (-1)) hx hb dX_need_20 (by decide) ?_
        exact kx_iret (σ' := σ) CX hP hS dX_need_21 (by constructor <;> simp [bI, c_5, ej, c_12, ek, c_17, c_17i, x_need, xs, upd2_at])
set_option maxRecDepth 100000 in
set_option maxHeartbeats 800000 in
theorem cX_serve (l : Launch) (D : va_G) (cA : Nat → ClassId) {ad : Nat → Nat} (hJ : kw_J 36 ad) (σ : XS) (x1 x2 x3 : Int32) : kx_Met l yX_serve (.code yX_serve bX_serve 4 (Option.some .int) :: kw_T) (kw_R 2) D (kx_tys cA) 36 ad (wX cA ad) σ [.ref (ad 0), .int x1, .int x2, .int x3] (fun r9 u9 => r9 = some (.int ((x_serve σ x1 x2 x3).1)) ∧ (x_serve σ x1 x2 x3).2 = u9) := by
  refine kx_of hJ (by decide +kernel) (Nat.le_of_ble_eq_true rfl) ?_
  intro p e s m args below meth c CX ls hl hP hS
  obtain ⟨hx, hb, hr, hml, hown, hts, hlk, hK, hJ1, hZ⟩ := id CX
  have hl : lv_has ls 4 [(0, .ref (ad 0)), (1, .int x1), (2, .int x2), (3, .int x3)] := hl
  refine lv_aload_n hx hb dX_serve_0 rfl (lv_at hl 0 rfl) ?_
  refine lv_iload_n hx hb dX_serve_1 rfl (lv_at hl 1 rfl) ?_
  refine kx_callV1 (σ1 := σ) (v := .int (bI (thereX σ x1 = true))) (n := 1) (As := [.int x1]) (rest := []) CX hP hS hl.1 (cX_isThere l D cA hJ σ x1) wl_158 wl_160 wp_0 wl_1 wl_161 ⟨rfl, by decide +kernel, by decide +kernel, by decide +kernel⟩ (kw_R_ok (by omega) (by omega)) ⟨rfl, rfl⟩ (k := 0) (by omega) rfl rfl rfl rfl rfl (Nat.le_of_ble_eq_true rfl) dX_serve_2 (fun H locs hP hS => ?_)
  refine lv_if_eq (tgt := 17) hx hb dX_serve_5 (by decide) (fun c_5 => ?_) (fun c_5 => ?_)
  · have c_5 := bI_eq0.mp c_5
    refine lv_iconst (v := (-1)) hx hb dX_serve_17 (by decide) ?_
    exact kx_iret (σ' := σ) CX hP hS dX_serve_18 (by constructor <;> simp [bI, c_5, x_serve])
  · have c_5 := bI_ne0.mp c_5
    obtain ⟨j, hj, rfl⟩ := thereX_of c_5
    have ej : pn (nI j) = j := pn_nI (by omega)
    refine lv_iload_n hx hb dX_serve_8 rfl (lv_at hl 2 rfl) ?_
    refine lv_if_lt (tgt := 17) hx hb dX_serve_9 (by decide) (fun c_9 => ?_) (fun c_9 => ?_)
    · skip
      refine lv_iconst (v := (-1)) hx hb dX_serve_17 (by decide) ?_
      exact kx_iret (σ' := σ) CX hP hS dX_serve_18 (by constructor <;> simp [bI, c_5, ej, c_9, x_serve])
    · skip
      refine lv_iload_n hx hb dX_serve_12 rfl (lv_at hl 2 rfl) ?_
      refine lv_iconst (v := 2) hx hb dX_serve_13 (by decide) ?_
      refine lv_icmp_le (tgt := 19) hx hb dX_serve_14 (by decide) (fun c_14 => ?_) (fun c_14 => ?_)
      · skip
        refine lv_iload_n hx hb dX_serve_19 rfl (lv_at hl 2 rfl) ?_
        refine lv_iconst (v := 2) hx hb dX_serve_20 (by decide) ?_
        refine lv_icmp_ne (tgt := 36) hx hb dX_serve_21 (by decide) (fun c_21 => ?_) (fun c_21 => ?_)
        · skip
          refine lv_aload_n hx hb dX_serve_36 rfl (lv_at hl 0 rfl) ?_
          refine xX_get CX hP 0 (by omega) wl_111 rfl dX_serve_37 ?_
          refine lv_iload_n hx hb dX_serve_40 rfl (lv_at hl 1 rfl) ?_
          refine xA_P CX hP j (rfl) (by omega) dX_serve_41 ?_
          refine lv_iload_n hx hb dX_serve_42 rfl (lv_at hl 2 rfl) ?_
          refine xP_put CX hP hS (by omega) 4 (by omega) (by omega) wl_51 ⟨rfl, rfl⟩ dX_serve_43 (fun H locs hP hS => ?_)
          refine lv_aload_n hx hb dX_serve_46 rfl (lv_at hl 0 rfl) ?_
          refine xX_get CX hP 0 (by omega) wl_111 rfl dX_serve_47 ?_
          refine lv_iload_n hx hb dX_serve_50 rfl (lv_at hl 1 rfl) ?_
          refine xA_P CX hP j (rfl) (by omega) dX_serve_51 ?_
          refine lv_iload_n hx hb dX_serve_52 rfl (lv_at hl 3 rfl) ?_
          refine xP_put CX hP hS (by omega) 5 (by omega) (by omega) wl_52 ⟨rfl, rfl⟩ dX_serve_53 (fun H locs hP hS => ?_)
          refine lv_iconst (v := 0) hx hb dX_serve_56 (by decide) ?_
          exact kx_iret (σ' := xs (xs σ 4 j x2) 5 j x3) CX hP hS dX_serve_57 (by constructor <;> simp [bI, c_5, ej, c_9, c_14, c_21, x_serve])
        · skip
          refine lv_iload_n hx hb dX_serve_24 rfl (lv_at hl 3 rfl) ?_
          refine lv_if_lt (tgt := 34) hx hb dX_serve_25 (by decide) (fun c_25 => ?_) (fun c_25 => ?_)
          · skip
            refine lv_iconst (v := (-1)) hx hb dX_serve_34 (by decide) ?_
            exact kx_iret (σ' := σ) CX hP hS dX_serve_35 (by constructor <;> simp [bI, c_5, ej, c_9, c_14, c_21, c_25, x_serve])
          · skip
            refine lv_iload_n hx hb dX_serve_28 rfl (lv_at hl 3 rfl) ?_
            refine lv_bipush (v := 9) hx hb dX_serve_29 (by decide) ?_
            refine lv_icmp_le (tgt := 36) hx hb dX_serve_31 (by decide) (fun c_31 => ?_) (fun c_31 => ?_)
            · skip
              refine lv_aload_n hx hb dX_serve_36 rfl (lv_at hl 0 rfl) ?_
              refine xX_get CX hP 0 (by omega) wl_111 rfl dX_serve_37 ?_
              refine lv_iload_n hx hb dX_serve_40 rfl (lv_at hl 1 rfl) ?_
              refine xA_P CX hP j (rfl) (by omega) dX_serve_41 ?_
              refine lv_iload_n hx hb dX_serve_42 rfl (lv_at hl 2 rfl) ?_
              refine xP_put CX hP hS (by omega) 4 (by omega) (by omega) wl_51 ⟨rfl, rfl⟩ dX_serve_43 (fun H locs hP hS => ?_)
              refine lv_aload_n hx hb dX_serve_46 rfl (lv_at hl 0 rfl) ?_
              refine xX_get CX hP 0 (by omega) wl_111 rfl dX_serve_47 ?_
              refine lv_iload_n hx hb dX_serve_50 rfl (lv_at hl 1 rfl) ?_
              refine xA_P CX hP j (rfl) (by omega) dX_serve_51 ?_
              refine lv_iload_n hx hb dX_serve_52 rfl (lv_at hl 3 rfl) ?_
              refine xP_put CX hP hS (by omega) 5 (by omega) (by omega) wl_52 ⟨rfl, rfl⟩ dX_serve_53 (fun H locs hP hS => ?_)
              refine lv_iconst (v := 0) hx hb dX_serve_56 (by decide) ?_
              exact kx_iret (σ' := xs (xs σ 4 j x2) 5 j x3) CX hP hS dX_serve_57 (by constructor <;> simp [bI, c_5, ej, c_9, c_14, c_21, c_25, c_31, x_serve])
            · skip
              refine lv_iconst (v := (-1)) hx hb dX_serve_34 (by decide) ?_
              exact kx_iret (σ' := σ) CX hP hS dX_serve_35 (by constructor <;> simp [bI, c_5, ej, c_9, c_14, c_21, c_25, c_31, x_serve])
      · skip
        refine lv_iconst (v := (-1)) hx hb dX_serve_17 (by decide) ?_
        exact kx_iret (σ' := σ) CX hP hS dX_serve_18 (by constructor <;> simp [bI, c_5, ej, c_9, c_14, x_serve])
set_option maxRecDepth 100000 in
set_option maxHeartbeats 800000 in
theorem cX_isExtension (l : Launch) (D : va_G) (cA : Nat → ClassId) {ad : Nat → Nat} (hJ : kw_J 36 ad) (σ : XS) (x1 : Int32) : kx_Met l yX_isExtension (.code yX_isExtension bX_isExtension 2 (Option.some .boolean) :: kw_T) (kw_R 1) D (kx_tys cA) 36 ad (wX cA ad) σ [.ref (ad 0), .int x1] (fun r9 u9 => r9 = some (.int (bI (isExtX σ x1 = true))) ∧ σ = u9) := by
  refine kx_of hJ (by decide +kernel) (Nat.le_of_ble_eq_true rfl) ?_
  intro p e s m args below meth c CX ls hl hP hS
  obtain ⟨hx, hb, hr, hml, hown, hts, hlk, hK, hJ1, hZ⟩ := id CX
  have hl : lv_has ls 2 [(0, .ref (ad 0)), (1, .int x1)] := hl
  refine lv_iload_n hx hb dX_isExtension_0 rfl (lv_at hl 1 rfl) ?_
  refine lv_if_lt (tgt := 26) hx hb dX_isExtension_1 (by decide) (fun c_1 => ?_) (fun c_1 => ?_)
  · skip
    refine lv_iconst (v := 0) hx hb dX_isExtension_26 (by decide) ?_
    exact kx_zret (σ' := σ) CX (by decide) hP hS dX_isExtension_27 (by constructor <;> simp [bI, c_1, isExtX, in16])
  · skip
    refine lv_iload_n hx hb dX_isExtension_4 rfl (lv_at hl 1 rfl) ?_
    refine lv_bipush (v := 16) hx hb dX_isExtension_5 (by decide) ?_
    refine lv_icmp_ge (tgt := 26) hx hb dX_isExtension_7 (by decide) (fun c_7 => ?_) (fun c_7 => ?_)
    · skip
      refine lv_iconst (v := 0) hx hb dX_isExtension_26 (by decide) ?_
      exact kx_zret (σ' := σ) CX (by decide) hP hS dX_isExtension_27 (by constructor <;> simp [bI, c_1, c_7, isExtX, in16])
    · skip
      obtain ⟨j, hj, rfl⟩ := in16_of (decide_eq_true ⟨c_1, c_7⟩)
      have ej : pn (nI j) = j := pn_nI (by omega)
      refine lv_aload_n hx hb dX_isExtension_10 rfl (lv_at hl 0 rfl) ?_
      refine xX_get CX hP 1 (by omega) wl_112 rfl dX_isExtension_11 ?_
      refine lv_iload_n hx hb dX_isExtension_14 rfl (lv_at hl 1 rfl) ?_
      refine xA_E CX hP j (rfl) (by omega) dX_isExtension_15 ?_
      refine xE_get CX hP (by omega) 1 (by omega) wl_83 rfl dX_isExtension_16 ?_
      refine lv_if_eq (tgt := 26) hx hb dX_isExtension_19 (by decide) (fun c_19 => ?_) (fun c_19 => ?_)
      · skip
        refine lv_iconst (v := 0) hx hb dX_isExtension_26 (by decide) ?_
        exact kx_zret (σ' := σ) CX (by decide) hP hS dX_isExtension_27 (by constructor <;> simp [bI, c_1, c_7, ej, c_19, isExtX, in16])
      · skip
        refine lv_iconst (v := 1) hx hb dX_isExtension_22 (by decide) ?_
        refine lv_goto (tgt := 27) hx hb dX_isExtension_23 (by decide) ?_
        exact kx_zret (σ' := σ) CX (by decide) hP hS dX_isExtension_27 (by constructor <;> simp [bI, c_1, c_7, ej, c_19, isExtX, in16])
set_option maxRecDepth 100000 in
set_option maxHeartbeats 800000 in
theorem cX_isLive (l : Launch) (D : va_G) (cA : Nat → ClassId) {ad : Nat → Nat} (hJ : kw_J 36 ad) (σ : XS) (i : Nat) (hi : i < 16) (hPl : ∀ e, e < 16 → ∃ j, j < 8 ∧ σ.1 12 e = nI j) : kx_Met l yX_isLive (.code yX_isLive bX_isLive 2 (Option.some .boolean) :: kw_T) (kw_R 1) D (kx_tys cA) 36 ad (wX cA ad) σ [.ref (ad 0), .ref (ad (20 + i))] (fun r9 u9 => r9 = some (.int (bI (liveX σ i = true))) ∧ σ = u9) := by
  obtain ⟨j, hj, ePl⟩ := hPl i hi
  have ej : pn (nI j) = j := pn_nI (by omega)
  refine kx_of hJ (by decide +kernel) (Nat.le_of_ble_eq_true rfl) ?_
  intro p e s m args below meth c CX ls hl hP hS
  obtain ⟨hx, hb, hr, hml, hown, hts, hlk, hK, hJ1, hZ⟩ := id CX
  have hl : lv_has ls 2 [(0, .ref (ad 0)), (1, .ref (ad (20 + i)))] := hl
  refine lv_aload_n hx hb dX_isLive_0 rfl (lv_at hl 1 rfl) ?_
  refine xE_get CX hP (by omega) 1 (by omega) wl_83 rfl dX_isLive_1 ?_
  refine lv_if_eq (tgt := 34) hx hb dX_isLive_4 (by decide) (fun c_4 => ?_) (fun c_4 => ?_)
  · skip
    refine lv_iconst (v := 0) hx hb dX_isLive_34 (by decide) ?_
    exact kx_zret (σ' := σ) CX (by decide) hP hS dX_isLive_35 (by constructor <;> simp [bI, c_4, liveX, ePl, ej])
  · skip
    refine lv_aload_n hx hb dX_isLive_7 rfl (lv_at hl 1 rfl) ?_
    refine kx_callV1 (σ1 := σ) (v := .int (bI (shutX σ i = true))) (n := 0) (As := []) (rest := []) CX hP hS hl.1 (cE_isShutOut l D cA hJ σ i (by omega)) wl_254 wl_255 wl_256 wl_4 wl_257 ⟨rfl, by decide +kernel, by decide +kernel, by decide +kernel⟩ (kw_R_ok (by omega) (by omega)) ⟨rfl, rfl⟩ (k := 20 + i) (by omega) wX_aE rfl rfl rfl rfl (Nat.le_of_ble_eq_true rfl) dX_isLive_8 (fun H locs hP hS => ?_)
    refine lv_if_ne (tgt := 34) hx hb dX_isLive_11 (by decide) (fun c_11 => ?_) (fun c_11 => ?_)
    · have c_11 := bI_ne0.mp c_11
      refine lv_iconst (v := 0) hx hb dX_isLive_34 (by decide) ?_
      exact kx_zret (σ' := σ) CX (by decide) hP hS dX_isLive_35 (by constructor <;> simp [bI, c_4, c_11, liveX, ePl, ej])
    · have c_11 := bI_eq0.mp c_11
      refine lv_aload_n hx hb dX_isLive_14 rfl (lv_at hl 0 rfl) ?_
      refine xX_get CX hP 0 (by omega) wl_111 rfl dX_isLive_15 ?_
      refine lv_aload_n hx hb dX_isLive_18 rfl (lv_at hl 1 rfl) ?_
      refine xE_get CX hP (by omega) 2 (by omega) wl_84 rfl dX_isLive_19 ?_
      refine kx_topi (v' := nI j) (ePl) ?_
      refine xA_P CX hP j (rfl) (by omega) dX_isLive_22 ?_
      refine xP_get CX hP (by omega) 1 (by omega) wl_44 rfl dX_isLive_23 ?_
      refine lv_iconst (v := 2) hx hb dX_isLive_26 (by decide) ?_
      refine lv_icmp_ne (tgt := 34) hx hb dX_isLive_27 (by decide) (fun c_27 => ?_) (fun c_27 => ?_)
      · skip
        refine lv_iconst (v := 0) hx hb dX_isLive_34 (by decide) ?_
        exact kx_zret (σ' := σ) CX (by decide) hP hS dX_isLive_35 (by constructor <;> simp [bI, c_4, c_11, c_27, liveX, ePl, ej])
      · skip
        refine lv_iconst (v := 1) hx hb dX_isLive_30 (by decide) ?_
        refine lv_goto (tgt := 35) hx hb dX_isLive_31 (by decide) ?_
        exact kx_zret (σ' := σ) CX (by decide) hP hS dX_isLive_35 (by constructor <;> simp [bI, c_4, c_11, c_27, liveX, ePl, ej])
set_option maxRecDepth 100000 in
set_option maxHeartbeats 800000 in
theorem cX_isLiveAt (l : Launch) (D : va_G) (cA : Nat → ClassId) {ad : Nat → Nat} (hJ : kw_J 36 ad) (σ : XS) (i : Nat) (hi : i < 16) (x2 : Int32) (hPl : ∀ e, e < 16 → ∃ j, j < 8 ∧ σ.1 12 e = nI j) : kx_Met l yX_isLiveAt (.code yX_isLiveAt bX_isLiveAt 3 (Option.some .boolean) :: kw_T) (kw_R 2) D (kx_tys cA) 36 ad (wX cA ad) σ [.ref (ad 0), .ref (ad (20 + i)), .int x2] (fun r9 u9 => r9 = some (.int (bI (liveAtX σ i x2 = true))) ∧ σ = u9) := by
  refine kx_of hJ (by decide +kernel) (Nat.le_of_ble_eq_true rfl) ?_
  intro p e s m args below meth c CX ls hl hP hS
  obtain ⟨hx, hb, hr, hml, hown, hts, hlk, hK, hJ1, hZ⟩ := id CX
  have hl : lv_has ls 3 [(0, .ref (ad 0)), (1, .ref (ad (20 + i))), (2, .int x2)] := hl
  refine lv_aload_n hx hb dX_isLiveAt_0 rfl (lv_at hl 1 rfl) ?_
  refine xE_get CX hP (by omega) 3 (by omega) wl_85 rfl dX_isLiveAt_1 ?_
  refine lv_iload_n hx hb dX_isLiveAt_4 rfl (lv_at hl 2 rfl) ?_
  refine lv_icmp_ne (tgt := 20) hx hb dX_isLiveAt_5 (by decide) (fun c_5 => ?_) (fun c_5 => ?_)
  · skip
    refine lv_iconst (v := 0) hx hb dX_isLiveAt_20 (by decide) ?_
    exact kx_zret (σ' := σ) CX (by decide) hP hS dX_isLiveAt_21 (by constructor <;> simp [bI, c_5, liveAtX])
  · skip
    refine lv_aload_n hx hb dX_isLiveAt_8 rfl (lv_at hl 0 rfl) ?_
    refine lv_aload_n hx hb dX_isLiveAt_9 rfl (lv_at hl 1 rfl) ?_
    refine kx_callV1 (σ1 := σ) (v := .int (bI (liveX σ i = true))) (n := 1) (As := [.ref (ad (20 + i))]) (rest := []) CX hP hS hl.1 (cX_isLive l D cA hJ σ i (by omega) hPl) wl_250 wl_252 wp_11 wl_1 wl_253 ⟨rfl, by decide +kernel, by decide +kernel, by decide +kernel⟩ (kw_R_ok (by omega) (by omega)) ⟨rfl, rfl⟩ (k := 0) (by omega) rfl rfl rfl rfl rfl (Nat.le_of_ble_eq_true rfl) dX_isLiveAt_10 (fun H locs hP hS => ?_)
    refine lv_if_eq (tgt := 20) hx hb dX_isLiveAt_13 (by decide) (fun c_13 => ?_) (fun c_13 => ?_)
    · have c_13 := bI_eq0.mp c_13
      refine lv_iconst (v := 0) hx hb dX_isLiveAt_20 (by decide) ?_
      exact kx_zret (σ' := σ) CX (by decide) hP hS dX_isLiveAt_21 (by constructor <;> simp [bI, c_5, c_13, liveAtX])
    · have c_13 := bI_ne0.mp c_13
      refine lv_iconst (v := 1) hx hb dX_isLiveAt_16 (by decide) ?_
      refine lv_goto (tgt := 21) hx hb dX_isLiveAt_17 (by decide) ?_
      exact kx_zret (σ' := σ) CX (by decide) hP hS dX_isLiveAt_21 (by constructor <;> simp [bI, c_5, c_13, liveAtX])
set_option maxRecDepth 100000 in
set_option maxHeartbeats 800000 in
theorem cX_standing (l : Launch) (D : va_G) (cA : Nat → ClassId) {ad : Nat → Nat} (hJ : kw_J 36 ad) (σ : XS) (i : Nat) (hi : i < 16) (hPl : ∀ e, e < 16 → ∃ j, j < 8 ∧ σ.1 12 e = nI j) : kx_Met l yX_standing (.code yX_standing bX_standing 2 (Option.some .int) :: kw_T) (kw_R 2) D (kx_tys cA) 36 ad (wX cA ad) σ [.ref (ad 0), .ref (ad (20 + i))] (fun r9 u9 => r9 = some (.int (standX σ i)) ∧ σ = u9) := by
  refine kx_of hJ (by decide +kernel) (Nat.le_of_ble_eq_true rfl) ?_
  intro p e s m args below meth c CX ls hl hP hS
  obtain ⟨hx, hb, hr, hml, hown, hts, hlk, hK, hJ1, hZ⟩ := id CX
  have hl : lv_has ls 2 [(0, .ref (ad 0)), (1, .ref (ad (20 + i)))] := hl
  refine lv_aload_n hx hb dX_standing_0 rfl (lv_at hl 1 rfl) ?_
  refine kx_callV1 (σ1 := σ) (v := .int (bI (shutX σ i = true))) (n := 0) (As := []) (rest := []) CX hP hS hl.1 (cE_isShutOut l D cA hJ σ i (by omega)) wl_254 wl_255 wl_256 wl_4 wl_257 ⟨rfl, by decide +kernel, by decide +kernel, by decide +kernel⟩ (kw_R_ok (by omega) (by omega)) ⟨rfl, rfl⟩ (k := 20 + i) (by omega) wX_aE rfl rfl rfl rfl (Nat.le_of_ble_eq_true rfl) dX_standing_1 (fun H locs hP hS => ?_)
  refine lv_if_eq (tgt := 9) hx hb dX_standing_4 (by decide) (fun c_4 => ?_) (fun c_4 => ?_)
  · have c_4 := bI_eq0.mp c_4
    refine lv_aload_n hx hb dX_standing_9 rfl (lv_at hl 0 rfl) ?_
    refine lv_aload_n hx hb dX_standing_10 rfl (lv_at hl 1 rfl) ?_
    refine kx_callV1 (σ1 := σ) (v := .int (bI (liveX σ i = true))) (n := 1) (As := [.ref (ad (20 + i))]) (rest := []) CX hP hS hl.1 (cX_isLive l D cA hJ σ i (by omega) hPl) wl_250 wl_252 wp_11 wl_1 wl_253 ⟨rfl, by decide +kernel, by decide +kernel, by decide +kernel⟩ (kw_R_ok (by omega) (by omega)) ⟨rfl, rfl⟩ (k := 0) (by omega) rfl rfl rfl rfl rfl (Nat.le_of_ble_eq_true rfl) dX_standing_11 (fun H locs hP hS => ?_)
    refine lv_if_eq (tgt := 21) hx hb dX_standing_14 (by decide) (fun c_14 => ?_) (fun c_14 => ?_)
    · have c_14 := bI_eq0.mp c_14
      refine lv_iconst (v := 0) hx hb dX_standing_21 (by decide) ?_
      exact kx_iret (σ' := σ) CX hP hS dX_standing_22 (by constructor <;> simp [bI, c_4, c_14, standX])
    · have c_14 := bI_ne0.mp c_14
      refine lv_iconst (v := 1) hx hb dX_standing_17 (by decide) ?_
      refine lv_goto (tgt := 22) hx hb dX_standing_18 (by decide) ?_
      exact kx_iret (σ' := σ) CX hP hS dX_standing_22 (by constructor <;> simp [bI, c_4, c_14, standX])
  · have c_4 := bI_ne0.mp c_4
    refine lv_iconst (v := 2) hx hb dX_standing_7 (by decide) ?_
    exact kx_iret (σ' := σ) CX hP hS dX_standing_8 (by constructor <;> simp [bI, c_4, standX])
set_option maxRecDepth 100000 in
set_option maxHeartbeats 800000 in
theorem cX_activePlugins (l : Launch) (D : va_G) (cA : Nat → ClassId) {ad : Nat → Nat} (hJ : kw_J 36 ad) (σ : XS) : kx_Met l yX_activePlugins (.code yX_activePlugins bX_activePlugins 6 (Option.some .int) :: kw_T) (kw_R 0) D (kx_tys cA) 36 ad (wX cA ad) σ [.ref (ad 0)] (fun r9 u9 => r9 = some (.int (cntX σ 8)) ∧ σ = u9) := by
  refine kx_of hJ (by decide +kernel) (Nat.le_of_ble_eq_true rfl) ?_
  intro p e s m args below meth c CX ls hl hP hS
  obtain ⟨hx, hb, hr, hml, hown, hts, hlk, hK, hJ1, hZ⟩ := id CX
  have hl : lv_has ls 6 [(0, .ref (ad 0))] := hl
  refine lv_iconst (v := 0) hx hb dX_activePlugins_0 (by decide) ?_
  refine lv_istore_n (lv' := [(1, .int 0), (0, .ref (ad 0))]) hx hb dX_activePlugins_1 rfl hl (by decide) rfl (fun ls hl => ?_)
  refine lv_aload_n hx hb dX_activePlugins_2 rfl (lv_at hl 1 rfl) ?_
  refine xX_get CX hP 0 (by omega) wl_111 rfl dX_activePlugins_3 ?_
  refine lv_astore_n (lv' := [(2, .ref (ad 1)), (1, .int 0), (0, .ref (ad 0))]) hx hb dX_activePlugins_6 rfl hl (by decide) rfl (fun ls hl => ?_)
  refine lv_aload_n hx hb dX_activePlugins_7 rfl (lv_at hl 0 rfl) ?_
  refine kx_alen (v := 8) CX hP (k := 1) (t0 := 3) (by omega) rfl rfl rfl rfl dX_activePlugins_8 ?_
  refine lv_istore_n (lv' := [(3, .int 8), (2, .ref (ad 1)), (1, .int 0), (0, .ref (ad 0))]) hx hb dX_activePlugins_9 rfl hl (by decide) rfl (fun ls hl => ?_)
  refine lv_iconst (v := 0) hx hb dX_activePlugins_10 (by decide) ?_
  refine lv_istore (lv' := [(4, .int 0), (3, .int 8), (2, .ref (ad 1)), (1, .int 0), (0, .ref (ad 0))]) hx hb dX_activePlugins_11 hl (by decide) rfl (fun ls hl => ?_)
  have loop_13 : ∀ (fu : Nat) (i : Nat) (r : Int32), (i ≤ 8) → (r = cntX σ i) → 8 - i < fu → ∀ (H : Heap) (locs : List Loc), va_P D classes (kw_W 36 ad (wX cA ad σ)) H → va_S (kw_A 36 ad s.heap.size) s.heap H locs → ∀ (ls : Array Slot), lv_has ls 6 [(0, .ref (ad 0)), (1, .int r), (2, .ref (ad 1)), (3, .int 8), (4, .int (nI i))] → W p l e (kw_R 0) s m args below meth c H locs 0 0 (kx_Q below D 36 ad (wX cA ad) (fun r9 u9 => r9 = some (.int (cntX σ 8)) ∧ σ = u9) args s) (F0 m 13 ls []) := by
    intro fu13
    induction fu13 with
    | zero => intro i r hi hq hm13; exact absurd hm13 (Nat.not_lt_zero _)
    | succ fu13 ih13 =>
      intro i r hi hq hm13 H locs hP hS ls hl
      refine lv_iload hx hb dX_activePlugins_13 (lv_at hl 4 rfl) ?_
      refine lv_iload_n hx hb dX_activePlugins_15 rfl (lv_at hl 3 rfl) ?_
      refine lv_icmp_ge (tgt := 43) hx hb dX_activePlugins_16 (by decide) (fun c_16 => ?_) (fun c_16 => ?_)
      · have c_16i := c_16
        have c_16 : 8 ≤ i := (nI_le' (a := 8) (b := i) (by omega) (by omega)).mp c_16
        refine lv_iload_n hx hb dX_activePlugins_43 rfl (lv_at hl 1 rfl) ?_
        exact kx_iret (σ' := σ) CX hP hS dX_activePlugins_44 (by (have h8 : i = 8 := by omega); subst h8; exact ⟨by rw [hq], rfl⟩)
      · have c_16i := c_16
        have c_16 : ¬ (8 ≤ i) := fun hq9 => c_16 ((nI_le' (a := 8) (b := i) (by omega) (by omega)).mpr hq9)
        refine lv_aload_n hx hb dX_activePlugins_19 rfl (lv_at hl 2 rfl) ?_
        refine lv_iload hx hb dX_activePlugins_20 (lv_at hl 4 rfl) ?_
        refine xA_P CX hP i (rfl) (by omega) dX_activePlugins_22 ?_
        refine lv_astore (lv' := [(5, .ref (ad (12 + i))), (0, .ref (ad 0)), (1, .int r), (2, .ref (ad 1)), (3, .int 8), (4, .int (nI i))]) hx hb dX_activePlugins_23 hl (by decide) rfl (fun ls hl => ?_)
        refine lv_aload hx hb dX_activePlugins_25 (lv_at hl 0 rfl) ?_
        refine xP_get CX hP (by omega) 1 (by omega) wl_44 rfl dX_activePlugins_27 ?_
        refine lv_iconst (v := 2) hx hb dX_activePlugins_30 (by decide) ?_
        refine lv_icmp_ne (tgt := 37) hx hb dX_activePlugins_31 (by decide) (fun c_31 => ?_) (fun c_31 => ?_)
        · skip
          refine lv_iinc (v := nI (i + 1)) (lv' := [(4, .int (nI (i + 1))), (5, .ref (ad (12 + i))), (0, .ref (ad 0)), (1, .int r), (2, .ref (ad 1)), (3, .int 8)]) hx hb dX_activePlugins_37 hl (k := 5) rfl (nI_i1 i) (by decide) rfl (fun ls hl => ?_)
          refine lv_goto (tgt := 13) hx hb dX_activePlugins_40 (by decide) ?_
          exact ih13 (i + 1) r (by omega) (by simp [cntX, hq, c_31]) (by omega) _ _ hP hS ls (lv_sub hl [2, 3, 4, 5, 0] rfl)
        · skip
          refine lv_iinc (v := r + 1) (lv' := [(1, .int (r + 1)), (5, .ref (ad (12 + i))), (0, .ref (ad 0)), (2, .ref (ad 1)), (3, .int 8), (4, .int (nI i))]) hx hb dX_activePlugins_34 hl (k := 2) rfl (rfl) (by decide) rfl (fun ls hl => ?_)
          refine lv_iinc (v := nI (i + 1)) (lv' := [(4, .int (nI (i + 1))), (1, .int (r + 1)), (5, .ref (ad (12 + i))), (0, .ref (ad 0)), (2, .ref (ad 1)), (3, .int 8)]) hx hb dX_activePlugins_37 hl (k := 5) rfl (nI_i1 i) (by decide) rfl (fun ls hl => ?_)
          refine lv_goto (tgt := 13) hx hb dX_activePlugins_40 (by decide) ?_
          exact ih13 (i + 1) (r + 1) (by omega) (by simp [cntX, hq, c_31]) (by omega) _ _ hP hS ls (lv_sub hl [3, 1, 4, 5, 0] rfl)
  exact loop_13 ((8 - 0) + 1) 0 0 (by omega) rfl (Nat.lt_succ_self _) _ _ hP hS ls (lv_sub hl [4, 3, 2, 1, 0] rfl)
set_option maxRecDepth 100000 in
set_option maxHeartbeats 800000 in
theorem cX_shutOutExtensions (l : Launch) (D : va_G) (cA : Nat → ClassId) {ad : Nat → Nat} (hJ : kw_J 36 ad) (σ : XS) : kx_Met l yX_shutOutExtensions (.code yX_shutOutExtensions bX_shutOutExtensions 6 (Option.some .int) :: kw_T) (kw_R 1) D (kx_tys cA) 36 ad (wX cA ad) σ [.ref (ad 0)] (fun r9 u9 => r9 = some (.int (cntS σ 16)) ∧ σ = u9) := by
  refine kx_of hJ (by decide +kernel) (Nat.le_of_ble_eq_true rfl) ?_
  intro p e s m args below meth c CX ls hl hP hS
  obtain ⟨hx, hb, hr, hml, hown, hts, hlk, hK, hJ1, hZ⟩ := id CX
  have hl : lv_has ls 6 [(0, .ref (ad 0))] := hl
  refine lv_iconst (v := 0) hx hb dX_shutOutExtensions_0 (by decide) ?_
  refine lv_istore_n (lv' := [(1, .int 0), (0, .ref (ad 0))]) hx hb dX_shutOutExtensions_1 rfl hl (by decide) rfl (fun ls hl => ?_)
  refine lv_aload_n hx hb dX_shutOutExtensions_2 rfl (lv_at hl 1 rfl) ?_
  refine xX_get CX hP 1 (by omega) wl_112 rfl dX_shutOutExtensions_3 ?_
  refine lv_astore_n (lv' := [(2, .ref (ad 2)), (1, .int 0), (0, .ref (ad 0))]) hx hb dX_shutOutExtensions_6 rfl hl (by decide) rfl (fun ls hl => ?_)
  refine lv_aload_n hx hb dX_shutOutExtensions_7 rfl (lv_at hl 0 rfl) ?_
  refine kx_alen (v := 16) CX hP (k := 2) (t0 := 4) (by omega) rfl rfl rfl rfl dX_shutOutExtensions_8 ?_
  refine lv_istore_n (lv' := [(3, .int 16), (2, .ref (ad 2)), (1, .int 0), (0, .ref (ad 0))]) hx hb dX_shutOutExtensions_9 rfl hl (by decide) rfl (fun ls hl => ?_)
  refine lv_iconst (v := 0) hx hb dX_shutOutExtensions_10 (by decide) ?_
  refine lv_istore (lv' := [(4, .int 0), (3, .int 16), (2, .ref (ad 2)), (1, .int 0), (0, .ref (ad 0))]) hx hb dX_shutOutExtensions_11 hl (by decide) rfl (fun ls hl => ?_)
  have loop_13 : ∀ (fu : Nat) (i : Nat) (r : Int32), (i ≤ 16) → (r = cntS σ i) → 16 - i < fu → ∀ (H : Heap) (locs : List Loc), va_P D classes (kw_W 36 ad (wX cA ad σ)) H → va_S (kw_A 36 ad s.heap.size) s.heap H locs → ∀ (ls : Array Slot), lv_has ls 6 [(0, .ref (ad 0)), (1, .int r), (2, .ref (ad 2)), (3, .int 16), (4, .int (nI i))] → W p l e (kw_R 1) s m args below meth c H locs 0 0 (kx_Q below D 36 ad (wX cA ad) (fun r9 u9 => r9 = some (.int (cntS σ 16)) ∧ σ = u9) args s) (F0 m 13 ls []) := by
    intro fu13
    induction fu13 with
    | zero => intro i r hi hq hm13; exact absurd hm13 (Nat.not_lt_zero _)
    | succ fu13 ih13 =>
      intro i r hi hq hm13 H locs hP hS ls hl
      refine lv_iload hx hb dX_shutOutExtensions_13 (lv_at hl 4 rfl) ?_
      refine lv_iload_n hx hb dX_shutOutExtensions_15 rfl (lv_at hl 3 rfl) ?_
      refine lv_icmp_ge (tgt := 42) hx hb dX_shutOutExtensions_16 (by decide) (fun c_16 => ?_) (fun c_16 => ?_)
      · have c_16i := c_16
        have c_16 : 16 ≤ i := (nI_le' (a := 16) (b := i) (by omega) (by omega)).mp c_16
        refine lv_iload_n hx hb dX_shutOutExtensions_42 rfl (lv_at hl 1 rfl) ?_
        exact kx_iret (σ' := σ) CX hP hS dX_shutOutExtensions_43 (by (have h8 : i = 16 := by omega); subst h8; exact ⟨by rw [hq], rfl⟩)
      · have c_16i := c_16
        have c_16 : ¬ (16 ≤ i) := fun hq9 => c_16 ((nI_le' (a := 16) (b := i) (by omega) (by omega)).mpr hq9)
        refine lv_aload_n hx hb dX_shutOutExtensions_19 rfl (lv_at hl 2 rfl) ?_
        refine lv_iload hx hb dX_shutOutExtensions_20 (lv_at hl 4 rfl) ?_
        refine xA_E CX hP i (rfl) (by omega) dX_shutOutExtensions_22 ?_
        refine lv_astore (lv' := [(5, .ref (ad (20 + i))), (0, .ref (ad 0)), (1, .int r), (2, .ref (ad 2)), (3, .int 16), (4, .int (nI i))]) hx hb dX_shutOutExtensions_23 hl (by decide) rfl (fun ls hl => ?_)
        refine lv_aload hx hb dX_shutOutExtensions_25 (lv_at hl 0 rfl) ?_
        refine kx_callV1 (σ1 := σ) (v := .int (bI (shutX σ i = true))) (n := 0) (As := []) (rest := []) CX hP hS hl.1 (cE_isShutOut l D cA hJ σ i (by omega)) wl_254 wl_255 wl_256 wl_4 wl_257 ⟨rfl, by decide +kernel, by decide +kernel, by decide +kernel⟩ (kw_R_ok (by omega) (by omega)) ⟨rfl, rfl⟩ (k := 20 + i) (by omega) wX_aE rfl rfl rfl rfl (Nat.le_of_ble_eq_true rfl) dX_shutOutExtensions_27 (fun H locs hP hS => ?_)
        refine lv_if_eq (tgt := 36) hx hb dX_shutOutExtensions_30 (by decide) (fun c_30 => ?_) (fun c_30 => ?_)
        · have c_30 := bI_eq0.mp c_30
          refine lv_iinc (v := nI (i + 1)) (lv' := [(4, .int (nI (i + 1))), (5, .ref (ad (20 + i))), (0, .ref (ad 0)), (1, .int r), (2, .ref (ad 2)), (3, .int 16)]) hx hb dX_shutOutExtensions_36 hl (k := 5) rfl (nI_i1 i) (by decide) rfl (fun ls hl => ?_)
          refine lv_goto (tgt := 13) hx hb dX_shutOutExtensions_39 (by decide) ?_
          exact ih13 (i + 1) r (by omega) (by simp [cntS, hq, c_30]) (by omega) _ _ hP hS ls (lv_sub hl [2, 3, 4, 5, 0] rfl)
        · have c_30 := bI_ne0.mp c_30
          refine lv_iinc (v := r + 1) (lv' := [(1, .int (r + 1)), (5, .ref (ad (20 + i))), (0, .ref (ad 0)), (2, .ref (ad 2)), (3, .int 16), (4, .int (nI i))]) hx hb dX_shutOutExtensions_33 hl (k := 2) rfl (rfl) (by decide) rfl (fun ls hl => ?_)
          refine lv_iinc (v := nI (i + 1)) (lv' := [(4, .int (nI (i + 1))), (1, .int (r + 1)), (5, .ref (ad (20 + i))), (0, .ref (ad 0)), (2, .ref (ad 2)), (3, .int 16)]) hx hb dX_shutOutExtensions_36 hl (k := 5) rfl (nI_i1 i) (by decide) rfl (fun ls hl => ?_)
          refine lv_goto (tgt := 13) hx hb dX_shutOutExtensions_39 (by decide) ?_
          exact ih13 (i + 1) (r + 1) (by omega) (by simp [cntS, hq, c_30]) (by omega) _ _ hP hS ls (lv_sub hl [3, 1, 4, 5, 0] rfl)
  exact loop_13 ((16 - 0) + 1) 0 0 (by omega) rfl (Nat.lt_succ_self _) _ _ hP hS ls (lv_sub hl [4, 3, 2, 1, 0] rfl)
set_option maxRecDepth 100000 in
set_option maxHeartbeats 800000 in
theorem cX_forgive (l : Launch) (D : va_G) (cA : Nat → ClassId) {ad : Nat → Nat} (hJ : kw_J 36 ad) (σ : XS) (x1 : Int32) : kx_Met l yX_forgive (.code yX_forgive bX_forgive 2 (Option.some .int) :: kw_T) (kw_R 2) D (kx_tys cA) 36 ad (wX cA ad) σ [.ref (ad 0), .int x1] (fun r9 u9 => r9 = some (.int ((x_forgive σ x1).1)) ∧ (x_forgive σ x1).2 = u9) := by
  refine kx_of hJ (by decide +kernel) (Nat.le_of_ble_eq_true rfl) ?_
  intro p e s m args below meth c CX ls hl hP hS
  obtain ⟨hx, hb, hr, hml, hown, hts, hlk, hK, hJ1, hZ⟩ := id CX
  have hl : lv_has ls 2 [(0, .ref (ad 0)), (1, .int x1)] := hl
  refine lv_aload_n hx hb dX_forgive_0 rfl (lv_at hl 0 rfl) ?_
  refine lv_iload_n hx hb dX_forgive_1 rfl (lv_at hl 1 rfl) ?_
  refine kx_callV1 (σ1 := σ) (v := .int (bI (isExtX σ x1 = true))) (n := 1) (As := [.int x1]) (rest := []) CX hP hS hl.1 (cX_isExtension l D cA hJ σ x1) wl_292 wl_294 wp_19 wl_1 wl_295 ⟨rfl, by decide +kernel, by decide +kernel, by decide +kernel⟩ (kw_R_ok (by omega) (by omega)) ⟨rfl, rfl⟩ (k := 0) (by omega) rfl rfl rfl rfl rfl (Nat.le_of_ble_eq_true rfl) dX_forgive_2 (fun H locs hP hS => ?_)
  refine lv_if_eq (tgt := 20) hx hb dX_forgive_5 (by decide) (fun c_5 => ?_) (fun c_5 => ?_)
  · have c_5 := bI_eq0.mp c_5
    refine lv_iconst (v := (-1)) hx hb dX_forgive_20 (by decide) ?_
    exact kx_iret (σ' := σ) CX hP hS dX_forgive_21 (by constructor <;> simp [bI, c_5, x_forgive])
  · have c_5 := bI_ne0.mp c_5
    obtain ⟨j, hj, rfl⟩ := isExtX_of c_5
    have ej : pn (nI j) = j := pn_nI (by omega)
    refine lv_aload_n hx hb dX_forgive_8 rfl (lv_at hl 0 rfl) ?_
    refine xX_get CX hP 1 (by omega) wl_112 rfl dX_forgive_9 ?_
    refine lv_iload_n hx hb dX_forgive_12 rfl (lv_at hl 1 rfl) ?_
    refine xA_E CX hP j (rfl) (by omega) dX_forgive_13 ?_
    refine kx_callV1 (σ1 := σ) (v := .int (bI (shutX σ j = true))) (n := 0) (As := []) (rest := []) CX hP hS hl.1 (cE_isShutOut l D cA hJ σ j (by omega)) wl_254 wl_255 wl_256 wl_4 wl_257 ⟨rfl, by decide +kernel, by decide +kernel, by decide +kernel⟩ (kw_R_ok (by omega) (by omega)) ⟨rfl, rfl⟩ (k := 20 + j) (by omega) wX_aE rfl rfl rfl rfl (Nat.le_of_ble_eq_true rfl) dX_forgive_14 (fun H locs hP hS => ?_)
    refine lv_if_ne (tgt := 22) hx hb dX_forgive_17 (by decide) (fun c_17 => ?_) (fun c_17 => ?_)
    · have c_17 := bI_ne0.mp c_17
      refine lv_aload_n hx hb dX_forgive_22 rfl (lv_at hl 0 rfl) ?_
      refine xX_get CX hP 1 (by omega) wl_112 rfl dX_forgive_23 ?_
      refine lv_iload_n hx hb dX_forgive_26 rfl (lv_at hl 1 rfl) ?_
      refine xA_E CX hP j (rfl) (by omega) dX_forgive_27 ?_
      refine lv_iconst (v := 0) hx hb dX_forgive_28 (by decide) ?_
      refine xE_put CX hP hS (by omega) 7 (by omega) (by omega) (by omega) wl_90 ⟨rfl, rfl⟩ dX_forgive_29 (fun H locs hP hS => ?_)
      refine lv_iconst (v := 0) hx hb dX_forgive_32 (by decide) ?_
      exact kx_iret (σ' := xs σ 17 j 0) CX hP hS dX_forgive_33 (by constructor <;> simp [bI, c_5, ej, c_17, x_forgive])
    · have c_17 := bI_eq0.mp c_17
      refine lv_iconst (v := (-1)) hx hb dX_forgive_20 (by decide) ?_
      exact kx_iret (σ' := σ) CX hP hS dX_forgive_21 (by constructor <;> simp [bI, c_5, ej, c_17, x_forgive])
set_option maxRecDepth 100000 in
set_option maxHeartbeats 800000 in
theorem cX_extension (l : Launch) (D : va_G) (cA : Nat → ClassId) {ad : Nat → Nat} (hJ : kw_J 36 ad) (σ : XS) (x1 x2 : Int32) (hPl : ∀ e, e < 16 → ∃ j, j < 8 ∧ σ.1 12 e = nI j) : kx_Met l yX_extension (.code yX_extension bX_extension 4 (Option.some .int) :: kw_T) (kw_R 3) D (kx_tys cA) 36 ad (wX cA ad) σ [.ref (ad 0), .int x1, .int x2] (fun r9 u9 => r9 = some (.int (x_extension σ x1 x2)) ∧ σ = u9) := by
  refine kx_of hJ (by decide +kernel) (Nat.le_of_ble_eq_true rfl) ?_
  intro p e s m args below meth c CX ls hl hP hS
  obtain ⟨hx, hb, hr, hml, hown, hts, hlk, hK, hJ1, hZ⟩ := id CX
  have hl : lv_has ls 4 [(0, .ref (ad 0)), (1, .int x1), (2, .int x2)] := hl
  refine lv_aload_n hx hb dX_extension_0 rfl (lv_at hl 0 rfl) ?_
  refine lv_iload_n hx hb dX_extension_1 rfl (lv_at hl 1 rfl) ?_
  refine kx_callV1 (σ1 := σ) (v := .int (bI (isExtX σ x1 = true))) (n := 1) (As := [.int x1]) (rest := []) CX hP hS hl.1 (cX_isExtension l D cA hJ σ x1) wl_292 wl_294 wp_19 wl_1 wl_295 ⟨rfl, by decide +kernel, by decide +kernel, by decide +kernel⟩ (kw_R_ok (by omega) (by omega)) ⟨rfl, rfl⟩ (k := 0) (by omega) rfl rfl rfl rfl rfl (Nat.le_of_ble_eq_true rfl) dX_extension_2 (fun H locs hP hS => ?_)
  refine lv_if_ne (tgt := 10) hx hb dX_extension_5 (by decide) (fun c_5 => ?_) (fun c_5 => ?_)
  · have c_5 := bI_ne0.mp c_5
    obtain ⟨j, hj, rfl⟩ := isExtX_of c_5
    have ej : pn (nI j) = j := pn_nI (by omega)
    refine lv_aload_n hx hb dX_extension_10 rfl (lv_at hl 0 rfl) ?_
    refine xX_get CX hP 1 (by omega) wl_112 rfl dX_extension_11 ?_
    refine lv_iload_n hx hb dX_extension_14 rfl (lv_at hl 1 rfl) ?_
    refine xA_E CX hP j (rfl) (by omega) dX_extension_15 ?_
    refine lv_astore_n (lv' := [(3, .ref (ad (20 + j))), (0, .ref (ad 0)), (1, .int (nI j)), (2, .int x2)]) hx hb dX_extension_16 rfl hl (by decide) rfl (fun ls hl => ?_)
    refine lv_iload_n hx hb dX_extension_17 rfl (lv_at hl 3 rfl) ?_
    by_cases k_18_0 : x2 = 0
    · refine lv_tableIn (tgt := 56) (off := 38) hx hb dX_extension_18 (by rw [k_18_0]; decide) (by rw [k_18_0]; decide) (by rw [k_18_0]; decide) (by decide) ?_
      refine lv_aload_n hx hb dX_extension_56 rfl (lv_at hl 0 rfl) ?_
      refine xE_get CX hP (by omega) 2 (by omega) wl_84 rfl dX_extension_57 ?_
      exact kx_iret (σ' := σ) CX hP hS dX_extension_60 (by constructor <;> simp [x_extension, c_5, ej, k_18_0, k_18_0])
    by_cases k_18_1 : x2 = 1
    · refine lv_tableIn (tgt := 61) (off := 43) hx hb dX_extension_18 (by rw [k_18_1]; decide) (by rw [k_18_1]; decide) (by rw [k_18_1]; decide) (by decide) ?_
      refine lv_aload_n hx hb dX_extension_61 rfl (lv_at hl 0 rfl) ?_
      refine xE_get CX hP (by omega) 3 (by omega) wl_85 rfl dX_extension_62 ?_
      exact kx_iret (σ' := σ) CX hP hS dX_extension_65 (by constructor <;> simp [x_extension, c_5, ej, k_18_0, k_18_1, k_18_1])
    by_cases k_18_2 : x2 = 2
    · refine lv_tableIn (tgt := 66) (off := 48) hx hb dX_extension_18 (by rw [k_18_2]; decide) (by rw [k_18_2]; decide) (by rw [k_18_2]; decide) (by decide) ?_
      refine lv_aload_n hx hb dX_extension_66 rfl (lv_at hl 0 rfl) ?_
      refine xE_get CX hP (by omega) 4 (by omega) wl_86 rfl dX_extension_67 ?_
      exact kx_iret (σ' := σ) CX hP hS dX_extension_70 (by constructor <;> simp [x_extension, c_5, ej, k_18_0, k_18_1, k_18_2, k_18_2])
    by_cases k_18_3 : x2 = 3
    · refine lv_tableIn (tgt := 71) (off := 53) hx hb dX_extension_18 (by rw [k_18_3]; decide) (by rw [k_18_3]; decide) (by rw [k_18_3]; decide) (by decide) ?_
      refine lv_aload_n hx hb dX_extension_71 rfl (lv_at hl 0 rfl) ?_
      refine xE_get CX hP (by omega) 7 (by omega) wl_90 rfl dX_extension_72 ?_
      exact kx_iret (σ' := σ) CX hP hS dX_extension_75 (by constructor <;> simp [x_extension, c_5, ej, k_18_0, k_18_1, k_18_2, k_18_3, k_18_3])
    by_cases k_18_4 : x2 = 4
    · refine lv_tableIn (tgt := 76) (off := 58) hx hb dX_extension_18 (by rw [k_18_4]; decide) (by rw [k_18_4]; decide) (by rw [k_18_4]; decide) (by decide) ?_
      refine lv_aload_n hx hb dX_extension_76 rfl (lv_at hl 0 rfl) ?_
      refine xE_get CX hP (by omega) 8 (by omega) wl_91 rfl dX_extension_77 ?_
      exact kx_iret (σ' := σ) CX hP hS dX_extension_80 (by constructor <;> simp [x_extension, c_5, ej, k_18_0, k_18_1, k_18_2, k_18_3, k_18_4, k_18_4])
    by_cases k_18_5 : x2 = 5
    · refine lv_tableIn (tgt := 81) (off := 63) hx hb dX_extension_18 (by rw [k_18_5]; decide) (by rw [k_18_5]; decide) (by rw [k_18_5]; decide) (by decide) ?_
      refine lv_aload_n hx hb dX_extension_81 rfl (lv_at hl 1 rfl) ?_
      refine lv_aload_n hx hb dX_extension_82 rfl (lv_at hl 0 rfl) ?_
      refine kx_callV1 (σ1 := σ) (v := .int (standX σ j)) (n := 1) (As := [.ref (ad (20 + j))]) (rest := []) CX hP hS hl.1 (cX_standing l D cA hJ σ j (by omega) hPl) wl_304 wl_306 wp_20 wl_1 wl_307 ⟨rfl, by decide +kernel, by decide +kernel, by decide +kernel⟩ (kw_R_ok (by omega) (by omega)) ⟨rfl, rfl⟩ (k := 0) (by omega) rfl rfl rfl rfl rfl (Nat.le_of_ble_eq_true rfl) dX_extension_83 (fun H locs hP hS => ?_)
      exact kx_iret (σ' := σ) CX hP hS dX_extension_86 (by constructor <;> simp [x_extension, c_5, ej, k_18_0, k_18_1, k_18_2, k_18_3, k_18_4, k_18_5, k_18_5])
    refine lv_tableOut (tgt := 87) hx hb dX_extension_18 (kx_sw5 k_18_0 k_18_1 k_18_2 k_18_3 k_18_4 k_18_5) (by decide) ?_
    refine lv_iconst (v := (-1)) hx hb dX_extension_87 (by decide) ?_
    exact kx_iret (σ' := σ) CX hP hS dX_extension_88 (by constructor <;> simp [x_extension, c_5, ej, k_18_0, k_18_1, k_18_2, k_18_3, k_18_4, k_18_5])
  · have c_5 := bI_eq0.mp c_5
    refine lv_iconst (v := (-1)) hx hb dX_extension_8 (by decide) ?_
    exact kx_iret (σ' := σ) CX hP hS dX_extension_9 (by constructor <;> simp [x_extension, c_5])
set_option maxRecDepth 100000 in
set_option maxHeartbeats 800000 in
theorem cX_at (l : Launch) (D : va_G) (cA : Nat → ClassId) {ad : Nat → Nat} (hJ : kw_J 36 ad) (σ : XS) (x1 x2 : Int32) (hO : ∀ k, k < 16 → σ.2 k < 16) (hPl : ∀ e, e < 16 → ∃ j, j < 8 ∧ σ.1 12 e = nI j) : kx_Met l yX_at (.code yX_at bX_at 8 (Option.some .int) :: kw_T) (kw_R 3) D (kx_tys cA) 36 ad (wX cA ad) σ [.ref (ad 0), .int x1, .int x2] (fun r9 u9 => r9 = some (.int (x_at σ x1 x2)) ∧ σ = u9) := by
  refine kx_of hJ (by decide +kernel) (Nat.le_of_ble_eq_true rfl) ?_
  intro p e s m args below meth c CX ls hl hP hS
  obtain ⟨hx, hb, hr, hml, hown, hts, hlk, hK, hJ1, hZ⟩ := id CX
  have hl : lv_has ls 8 [(0, .ref (ad 0)), (1, .int x1), (2, .int x2)] := hl
  refine lv_iconst (v := 0) hx hb dX_at_0 (by decide) ?_
  refine lv_istore_n (lv' := [(3, .int 0), (0, .ref (ad 0)), (1, .int x1), (2, .int x2)]) hx hb dX_at_1 rfl hl (by decide) rfl (fun ls hl => ?_)
  refine lv_aload_n hx hb dX_at_2 rfl (lv_at hl 1 rfl) ?_
  refine xX_get CX hP 2 (by omega) wl_113 rfl dX_at_3 ?_
  refine lv_astore (lv' := [(4, .ref (ad 3)), (3, .int 0), (0, .ref (ad 0)), (1, .int x1), (2, .int x2)]) hx hb dX_at_6 hl (by decide) rfl (fun ls hl => ?_)
  refine lv_aload hx hb dX_at_8 (lv_at hl 0 rfl) ?_
  refine kx_alen (v := 16) CX hP (k := 3) (t0 := 4) (by omega) rfl rfl rfl rfl dX_at_10 ?_
  refine lv_istore (lv' := [(5, .int 16), (4, .ref (ad 3)), (3, .int 0), (0, .ref (ad 0)), (1, .int x1), (2, .int x2)]) hx hb dX_at_11 hl (by decide) rfl (fun ls hl => ?_)
  refine lv_iconst (v := 0) hx hb dX_at_13 (by decide) ?_
  refine lv_istore (lv' := [(6, .int 0), (5, .int 16), (4, .ref (ad 3)), (3, .int 0), (0, .ref (ad 0)), (1, .int x1), (2, .int x2)]) hx hb dX_at_14 hl (by decide) rfl (fun ls hl => ?_)
  have loop_16 : ∀ (fu : Nat) (i : Nat) (r : Int32), (i ≤ 16) → (x_at σ x1 x2 = x_atL σ x1 x2 (16 - i) i r) → 16 - i < fu → ∀ (H : Heap) (locs : List Loc), va_P D classes (kw_W 36 ad (wX cA ad σ)) H → va_S (kw_A 36 ad s.heap.size) s.heap H locs → ∀ (ls : Array Slot), lv_has ls 8 [(0, .ref (ad 0)), (1, .int x1), (2, .int x2), (3, .int r), (4, .ref (ad 3)), (5, .int 16), (6, .int (nI i))] → W p l e (kw_R 3) s m args below meth c H locs 0 0 (kx_Q below D 36 ad (wX cA ad) (fun r9 u9 => r9 = some (.int (x_at σ x1 x2)) ∧ σ = u9) args s) (F0 m 16 ls []) := by
    intro fu16
    induction fu16 with
    | zero => intro i r hi hq hm16; exact absurd hm16 (Nat.not_lt_zero _)
    | succ fu16 ih16 =>
      intro i r hi hq hm16 H locs hP hS ls hl
      refine lv_iload hx hb dX_at_16 (lv_at hl 6 rfl) ?_
      refine lv_iload hx hb dX_at_18 (lv_at hl 5 rfl) ?_
      refine lv_icmp_ge (tgt := 60) hx hb dX_at_20 (by decide) (fun c_20 => ?_) (fun c_20 => ?_)
      · have c_20i := c_20
        have c_20 : 16 ≤ i := (nI_le' (a := 16) (b := i) (by omega) (by omega)).mp c_20
        refine lv_iconst (v := (-1)) hx hb dX_at_60 (by decide) ?_
        exact kx_iret (σ' := σ) CX hP hS dX_at_61 (by rw [hq, show 16 - i = 0 by omega]; exact ⟨rfl, rfl⟩)
      · have c_20i := c_20
        have c_20 : ¬ (16 ≤ i) := fun hq9 => c_20 ((nI_le' (a := 16) (b := i) (by omega) (by omega)).mpr hq9)
        refine lv_aload hx hb dX_at_23 (lv_at hl 4 rfl) ?_
        refine lv_iload hx hb dX_at_25 (lv_at hl 6 rfl) ?_
        refine xA_O CX hP i (rfl) (by omega) dX_at_27 ?_
        refine lv_astore (lv' := [(7, .ref (ad (20 + (σ.2 i)))), (0, .ref (ad 0)), (1, .int x1), (2, .int x2), (3, .int r), (4, .ref (ad 3)), (5, .int 16), (6, .int (nI i))]) hx hb dX_at_28 hl (by decide) rfl (fun ls hl => ?_)
        refine lv_aload_n hx hb dX_at_30 rfl (lv_at hl 1 rfl) ?_
        refine lv_aload hx hb dX_at_31 (lv_at hl 0 rfl) ?_
        refine lv_iload_n hx hb dX_at_33 rfl (lv_at hl 2 rfl) ?_
        refine kx_callV1 (σ1 := σ) (v := .int (bI (liveAtX σ ((σ.2 i)) x1 = true))) (n := 2) (As := [.ref (ad (20 + (σ.2 i))), .int x1]) (rest := []) CX hP hS hl.1 (cX_isLiveAt l D cA hJ σ ((σ.2 i)) (hO _ (by omega)) x1 hPl) wl_246 wl_248 wp_10 wl_1 wl_249 ⟨rfl, by decide +kernel, by decide +kernel, by decide +kernel⟩ (kw_R_ok (by omega) (by omega)) ⟨rfl, rfl⟩ (k := 0) (by omega) rfl rfl rfl rfl rfl (Nat.le_of_ble_eq_true rfl) dX_at_34 (fun H locs hP hS => ?_)
        refine lv_if_eq (tgt := 54) hx hb dX_at_37 (by decide) (fun c_37 => ?_) (fun c_37 => ?_)
        · have c_37 := bI_eq0.mp c_37
          refine lv_iinc (v := nI (i + 1)) (lv' := [(6, .int (nI (i + 1))), (7, .ref (ad (20 + (σ.2 i)))), (0, .ref (ad 0)), (1, .int x1), (2, .int x2), (3, .int r), (4, .ref (ad 3)), (5, .int 16)]) hx hb dX_at_54 hl (k := 7) rfl (nI_i1 i) (by decide) rfl (fun ls hl => ?_)
          refine lv_goto (tgt := 16) hx hb dX_at_57 (by decide) ?_
          exact ih16 (i + 1) r (by omega) (by rw [hq, show 16 - i = 16 - (i + 1) + 1 by omega]; simp [x_atL, c_37]) (by omega) _ _ hP hS ls (lv_sub hl [2, 3, 4, 5, 6, 7, 0] rfl)
        · have c_37 := bI_ne0.mp c_37
          refine lv_iload_n hx hb dX_at_40 rfl (lv_at hl 4 rfl) ?_
          refine lv_iload_n hx hb dX_at_41 rfl (lv_at hl 3 rfl) ?_
          refine lv_icmp_ne (tgt := 51) hx hb dX_at_42 (by decide) (fun c_42 => ?_) (fun c_42 => ?_)
          · skip
            refine lv_iinc (v := r + 1) (lv' := [(3, .int (r + 1)), (7, .ref (ad (20 + (σ.2 i)))), (0, .ref (ad 0)), (1, .int x1), (2, .int x2), (4, .ref (ad 3)), (5, .int 16), (6, .int (nI i))]) hx hb dX_at_51 hl (k := 4) rfl (rfl) (by decide) rfl (fun ls hl => ?_)
            refine lv_iinc (v := nI (i + 1)) (lv' := [(6, .int (nI (i + 1))), (3, .int (r + 1)), (7, .ref (ad (20 + (σ.2 i)))), (0, .ref (ad 0)), (1, .int x1), (2, .int x2), (4, .ref (ad 3)), (5, .int 16)]) hx hb dX_at_54 hl (k := 7) rfl (nI_i1 i) (by decide) rfl (fun ls hl => ?_)
            refine lv_goto (tgt := 16) hx hb dX_at_57 (by decide) ?_
            exact ih16 (i + 1) (r + 1) (by omega) (by rw [hq, show 16 - i = 16 - (i + 1) + 1 by omega]; simp [x_atL, c_37, c_42]) (by omega) _ _ hP hS ls (lv_sub hl [3, 4, 5, 1, 6, 7, 0] rfl)
          · skip
            refine lv_aload hx hb dX_at_45 (lv_at hl 0 rfl) ?_
            refine xE_get CX hP (hO _ (by omega)) 0 (by omega) wl_81 rfl dX_at_47 ?_
            exact kx_iret (σ' := σ) CX hP hS dX_at_50 (by rw [hq, show 16 - i = 16 - (i + 1) + 1 by omega]; constructor <;> simp [x_atL, c_37, c_42])
  exact loop_16 ((16 - 0) + 1) 0 0 (by omega) rfl (Nat.lt_succ_self _) _ _ hP hS ls (lv_sub hl [4, 5, 6, 3, 2, 1, 0] rfl)
set_option maxRecDepth 100000 in
set_option maxHeartbeats 800000 in
theorem cX_ordinal (l : Launch) (D : va_G) (cA : Nat → ClassId) {ad : Nat → Nat} (hJ : kw_J 36 ad) (σ : XS) (x1 : Int32) : kx_Met l yX_ordinal (.code yX_ordinal bX_ordinal 2 (Option.some .double) :: kw_T) (kw_R 2) D (kx_tys cA) 36 ad (wX cA ad) σ [.ref (ad 0), .int x1] (fun r9 u9 => r9 = some (.double (x_ordinal σ x1)) ∧ σ = u9) := by
  refine kx_of hJ (by decide +kernel) (Nat.le_of_ble_eq_true rfl) ?_
  intro p e s m args below meth c CX ls hl hP hS
  obtain ⟨hx, hb, hr, hml, hown, hts, hlk, hK, hJ1, hZ⟩ := id CX
  have hl : lv_has ls 2 [(0, .ref (ad 0)), (1, .int x1)] := hl
  refine lv_aload_n hx hb dX_ordinal_0 rfl (lv_at hl 0 rfl) ?_
  refine lv_iload_n hx hb dX_ordinal_1 rfl (lv_at hl 1 rfl) ?_
  refine kx_callV1 (σ1 := σ) (v := .int (bI (isExtX σ x1 = true))) (n := 1) (As := [.int x1]) (rest := []) CX hP hS hl.1 (cX_isExtension l D cA hJ σ x1) wl_292 wl_294 wp_19 wl_1 wl_295 ⟨rfl, by decide +kernel, by decide +kernel, by decide +kernel⟩ (kw_R_ok (by omega) (by omega)) ⟨rfl, rfl⟩ (k := 0) (by omega) rfl rfl rfl rfl rfl (Nat.le_of_ble_eq_true rfl) dX_ordinal_2 (fun H locs hP hS => ?_)
  refine lv_if_eq (tgt := 20) hx hb dX_ordinal_5 (by decide) (fun c_5 => ?_) (fun c_5 => ?_)
  · have c_5 := bI_eq0.mp c_5
    refine lv_dconst0 hx hb dX_ordinal_20 ?_
    exact kx_dret (σ' := σ) CX hP hS dX_ordinal_21 (by constructor <;> simp [bI, c_5, x_ordinal])
  · have c_5 := bI_ne0.mp c_5
    obtain ⟨j, hj, rfl⟩ := isExtX_of c_5
    have ej : pn (nI j) = j := pn_nI (by omega)
    refine lv_aload_n hx hb dX_ordinal_8 rfl (lv_at hl 0 rfl) ?_
    refine xX_get CX hP 1 (by omega) wl_112 rfl dX_ordinal_9 ?_
    refine lv_iload_n hx hb dX_ordinal_12 rfl (lv_at hl 1 rfl) ?_
    refine xA_E CX hP j (rfl) (by omega) dX_ordinal_13 ?_
    refine xE_get CX hP (by omega) 6 (by omega) wl_88 rfl dX_ordinal_14 ?_
    refine lv_goto (tgt := 21) hx hb dX_ordinal_17 (by decide) ?_
    exact kx_dret (σ' := σ) CX hP hS dX_ordinal_21 (by constructor <;> simp [bI, c_5, ej, x_ordinal])
set_option maxRecDepth 100000 in
set_option maxHeartbeats 800000 in
theorem cX_fault (l : Launch) (D : va_G) (cA : Nat → ClassId) {ad : Nat → Nat} (hJ : kw_J 36 ad) (σ : XS) (x1 x2 : Int32) : kx_Met l yX_fault (.code yX_fault bX_fault 3 (Option.some .int) :: kw_T) (kw_R 1) D (kx_tys cA) 36 ad (wX cA ad) σ [.ref (ad 0), .int x1, .int x2] (fun r9 u9 => r9 = some (.int (x_fault σ x1 x2)) ∧ σ = u9) := by
  refine kx_of hJ (by decide +kernel) (Nat.le_of_ble_eq_true rfl) ?_
  intro p e s m args below meth c CX ls hl hP hS
  obtain ⟨hx, hb, hr, hml, hown, hts, hlk, hK, hJ1, hZ⟩ := id CX
  have hl : lv_has ls 3 [(0, .ref (ad 0)), (1, .int x1), (2, .int x2)] := hl
  refine lv_iload_n hx hb dX_fault_0 rfl (lv_at hl 2 rfl) ?_
  by_cases k_1_0 : x2 = 0
  · refine lv_tableIn (tgt := 28) (off := 27) hx hb dX_fault_1 (by rw [k_1_0]; decide) (by rw [k_1_0]; decide) (by rw [k_1_0]; decide) (by decide) ?_
    refine lv_aload_n hx hb dX_fault_28 rfl (lv_at hl 0 rfl) ?_
    refine xX_get CX hP 4 (by omega) wl_115 rfl dX_fault_29 ?_
    refine lv_iload_n hx hb dX_fault_32 rfl (lv_at hl 1 rfl) ?_
    refine kx_callV1 (σ1 := σ) (v := .int (hlast σ 1 x1)) (n := 1) (As := [.int x1]) (rest := []) CX hP hS hl.1 (cH_last l D cA hJ σ 1 (by omega) x1) wl_329 wl_330 wl_331 wl_2 wl_332 ⟨rfl, by decide +kernel, by decide +kernel, by decide +kernel⟩ (kw_R_ok (by omega) (by omega)) ⟨rfl, rfl⟩ (k := 4 + 1) (by omega) (wX_aH (by omega)) rfl rfl rfl rfl (Nat.le_of_ble_eq_true rfl) dX_fault_33 (fun H locs hP hS => ?_)
    exact kx_iret (σ' := σ) CX hP hS dX_fault_36 (by constructor <;> simp [x_fault, k_1_0])
  by_cases k_1_1 : x2 = 1
  · refine lv_tableIn (tgt := 37) (off := 36) hx hb dX_fault_1 (by rw [k_1_1]; decide) (by rw [k_1_1]; decide) (by rw [k_1_1]; decide) (by decide) ?_
    refine lv_aload_n hx hb dX_fault_37 rfl (lv_at hl 0 rfl) ?_
    refine xX_get CX hP 5 (by omega) wl_116 rfl dX_fault_38 ?_
    refine lv_iload_n hx hb dX_fault_41 rfl (lv_at hl 1 rfl) ?_
    refine kx_callV1 (σ1 := σ) (v := .int (hlast σ 2 x1)) (n := 1) (As := [.int x1]) (rest := []) CX hP hS hl.1 (cH_last l D cA hJ σ 2 (by omega) x1) wl_329 wl_330 wl_331 wl_2 wl_332 ⟨rfl, by decide +kernel, by decide +kernel, by decide +kernel⟩ (kw_R_ok (by omega) (by omega)) ⟨rfl, rfl⟩ (k := 4 + 2) (by omega) (wX_aH (by omega)) rfl rfl rfl rfl (Nat.le_of_ble_eq_true rfl) dX_fault_42 (fun H locs hP hS => ?_)
    exact kx_iret (σ' := σ) CX hP hS dX_fault_45 (by constructor <;> simp [x_fault, k_1_1])
  by_cases k_1_2 : x2 = 2
  · refine lv_tableIn (tgt := 46) (off := 45) hx hb dX_fault_1 (by rw [k_1_2]; decide) (by rw [k_1_2]; decide) (by rw [k_1_2]; decide) (by decide) ?_
    refine lv_aload_n hx hb dX_fault_46 rfl (lv_at hl 0 rfl) ?_
    refine xX_get CX hP 6 (by omega) wl_117 rfl dX_fault_47 ?_
    refine lv_iload_n hx hb dX_fault_50 rfl (lv_at hl 1 rfl) ?_
    refine kx_callV1 (σ1 := σ) (v := .int (hlast σ 3 x1)) (n := 1) (As := [.int x1]) (rest := []) CX hP hS hl.1 (cH_last l D cA hJ σ 3 (by omega) x1) wl_329 wl_330 wl_331 wl_2 wl_332 ⟨rfl, by decide +kernel, by decide +kernel, by decide +kernel⟩ (kw_R_ok (by omega) (by omega)) ⟨rfl, rfl⟩ (k := 4 + 3) (by omega) (wX_aH (by omega)) rfl rfl rfl rfl (Nat.le_of_ble_eq_true rfl) dX_fault_51 (fun H locs hP hS => ?_)
    exact kx_iret (σ' := σ) CX hP hS dX_fault_54 (by constructor <;> simp [x_fault, k_1_2])
  refine lv_tableOut (tgt := 55) hx hb dX_fault_1 (kx_sw2 k_1_0 k_1_1 k_1_2) (by decide) ?_
  refine lv_iconst (v := (-1)) hx hb dX_fault_55 (by decide) ?_
  exact kx_iret (σ' := σ) CX hP hS dX_fault_56 (by constructor <;> simp [x_fault, k_1_0, k_1_1, k_1_2])
set_option maxRecDepth 100000 in
set_option maxHeartbeats 800000 in
theorem cX_event (l : Launch) (D : va_G) (cA : Nat → ClassId) {ad : Nat → Nat} (hJ : kw_J 36 ad) (σ : XS) (x1 : Int32) : kx_Met l yX_event (.code yX_event bX_event 2 (Option.some .int) :: kw_T) (kw_R 1) D (kx_tys cA) 36 ad (wX cA ad) σ [.ref (ad 0), .int x1] (fun r9 u9 => r9 = some (.int (hlast σ 0 x1)) ∧ σ = u9) := by
  refine kx_of hJ (by decide +kernel) (Nat.le_of_ble_eq_true rfl) ?_
  intro p e s m args below meth c CX ls hl hP hS
  obtain ⟨hx, hb, hr, hml, hown, hts, hlk, hK, hJ1, hZ⟩ := id CX
  have hl : lv_has ls 2 [(0, .ref (ad 0)), (1, .int x1)] := hl
  refine lv_aload_n hx hb dX_event_0 rfl (lv_at hl 0 rfl) ?_
  refine xX_get CX hP 3 (by omega) wl_114 rfl dX_event_1 ?_
  refine lv_iload_n hx hb dX_event_4 rfl (lv_at hl 1 rfl) ?_
  refine kx_callV1 (σ1 := σ) (v := .int (hlast σ 0 x1)) (n := 1) (As := [.int x1]) (rest := []) CX hP hS hl.1 (cH_last l D cA hJ σ 0 (by omega) x1) wl_329 wl_330 wl_331 wl_2 wl_332 ⟨rfl, by decide +kernel, by decide +kernel, by decide +kernel⟩ (kw_R_ok (by omega) (by omega)) ⟨rfl, rfl⟩ (k := 4 + 0) (by omega) (wX_aH (by omega)) rfl rfl rfl rfl (Nat.le_of_ble_eq_true rfl) dX_event_5 (fun H locs hP hS => ?_)
  exact kx_iret (σ' := σ) CX hP hS dX_event_8 (⟨rfl, rfl⟩)
set_option maxRecDepth 100000 in
set_option maxHeartbeats 800000 in
theorem cX_count (l : Launch) (D : va_G) (cA : Nat → ClassId) {ad : Nat → Nat} (hJ : kw_J 36 ad) (σ : XS) (x1 : Int32) : kx_Met l yX_count (.code yX_count bX_count 2 (Option.some .int) :: kw_T) (kw_R 2) D (kx_tys cA) 36 ad (wX cA ad) σ [.ref (ad 0), .int x1] (fun r9 u9 => r9 = some (.int (x_count σ x1)) ∧ σ = u9) := by
  refine kx_of hJ (by decide +kernel) (Nat.le_of_ble_eq_true rfl) ?_
  intro p e s m args below meth c CX ls hl hP hS
  obtain ⟨hx, hb, hr, hml, hown, hts, hlk, hK, hJ1, hZ⟩ := id CX
  have hl : lv_has ls 2 [(0, .ref (ad 0)), (1, .int x1)] := hl
  refine lv_iload_n hx hb dX_count_0 rfl (lv_at hl 1 rfl) ?_
  by_cases k_1_0 : x1 = 0
  · refine lv_tableIn (tgt := 36) (off := 35) hx hb dX_count_1 (by rw [k_1_0]; decide) (by rw [k_1_0]; decide) (by rw [k_1_0]; decide) (by decide) ?_
    refine lv_aload_n hx hb dX_count_36 rfl (lv_at hl 0 rfl) ?_
    refine kx_callV1 (σ1 := σ) (v := .int (cntX σ 8)) (n := 0) (As := []) (rest := []) CX hP hS hl.1 (cX_activePlugins l D cA hJ σ) wl_234 wl_236 wp_8 wl_1 wl_237 ⟨rfl, by decide +kernel, by decide +kernel, by decide +kernel⟩ (kw_R_ok (by omega) (by omega)) ⟨rfl, rfl⟩ (k := 0) (by omega) rfl rfl rfl rfl rfl (Nat.le_of_ble_eq_true rfl) dX_count_37 (fun H locs hP hS => ?_)
    exact kx_iret (σ' := σ) CX hP hS dX_count_40 (by constructor <;> simp [x_count, k_1_0])
  by_cases k_1_1 : x1 = 1
  · refine lv_tableIn (tgt := 41) (off := 40) hx hb dX_count_1 (by rw [k_1_1]; decide) (by rw [k_1_1]; decide) (by rw [k_1_1]; decide) (by decide) ?_
    refine lv_aload_n hx hb dX_count_41 rfl (lv_at hl 0 rfl) ?_
    refine xX_get CX hP 7 (by omega) wl_118 rfl dX_count_42 ?_
    exact kx_iret (σ' := σ) CX hP hS dX_count_45 (by constructor <;> simp [x_count, k_1_1])
  by_cases k_1_2 : x1 = 2
  · refine lv_tableIn (tgt := 46) (off := 45) hx hb dX_count_1 (by rw [k_1_2]; decide) (by rw [k_1_2]; decide) (by rw [k_1_2]; decide) (by decide) ?_
    refine lv_aload_n hx hb dX_count_46 rfl (lv_at hl 0 rfl) ?_
    refine xX_get CX hP 5 (by omega) wl_116 rfl dX_count_47 ?_
    refine xH_get (i := 2) CX hP (by omega) 2 (by omega) wl_28 rfl dX_count_50 ?_
    exact kx_iret (σ' := σ) CX hP hS dX_count_53 (by constructor <;> simp [x_count, k_1_2])
  by_cases k_1_3 : x1 = 3
  · refine lv_tableIn (tgt := 54) (off := 53) hx hb dX_count_1 (by rw [k_1_3]; decide) (by rw [k_1_3]; decide) (by rw [k_1_3]; decide) (by decide) ?_
    refine lv_aload_n hx hb dX_count_54 rfl (lv_at hl 0 rfl) ?_
    refine xX_get CX hP 3 (by omega) wl_114 rfl dX_count_55 ?_
    refine xH_get (i := 0) CX hP (by omega) 2 (by omega) wl_28 rfl dX_count_58 ?_
    exact kx_iret (σ' := σ) CX hP hS dX_count_61 (by constructor <;> simp [x_count, k_1_3])
  by_cases k_1_4 : x1 = 4
  · refine lv_tableIn (tgt := 62) (off := 61) hx hb dX_count_1 (by rw [k_1_4]; decide) (by rw [k_1_4]; decide) (by rw [k_1_4]; decide) (by decide) ?_
    refine lv_aload_n hx hb dX_count_62 rfl (lv_at hl 0 rfl) ?_
    refine kx_callV1 (σ1 := σ) (v := .int (cntS σ 16)) (n := 0) (As := []) (rest := []) CX hP hS hl.1 (cX_shutOutExtensions l D cA hJ σ) wl_341 wl_343 wp_21 wl_1 wl_344 ⟨rfl, by decide +kernel, by decide +kernel, by decide +kernel⟩ (kw_R_ok (by omega) (by omega)) ⟨rfl, rfl⟩ (k := 0) (by omega) rfl rfl rfl rfl rfl (Nat.le_of_ble_eq_true rfl) dX_count_63 (fun H locs hP hS => ?_)
    exact kx_iret (σ' := σ) CX hP hS dX_count_66 (by constructor <;> simp [x_count, k_1_4])
  refine lv_tableOut (tgt := 67) hx hb dX_count_1 (kx_sw4 k_1_0 k_1_1 k_1_2 k_1_3 k_1_4) (by decide) ?_
  refine lv_iconst (v := (-1)) hx hb dX_count_67 (by decide) ?_
  exact kx_iret (σ' := σ) CX hP hS dX_count_68 (by constructor <;> simp [x_count, k_1_0, k_1_1, k_1_2, k_1_3, k_1_4])
