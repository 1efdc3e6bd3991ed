/-! the reference's methods on its raw state -/
def inR (v lo hi : Int32) : Bool := decide (¬ v < lo ∧ ¬ hi < v)
theorem inR_of {m : Nat} (hm : m + 1 < 2 ^ 31) {x : Int32} (h : inR x 0 (nI m) = true) : ∃ j : Nat, j < m + 1 ∧ x = nI j := by
  have h := of_decide_eq_true h
  rcases pk_ix x hm with q | q | q
  · exact absurd q h.1
  · exfalso
    refine h.2 ?_
    rw [Int32.lt_iff_toInt_lt, nI_toInt (by omega)]
    rw [Int32.le_iff_toInt_le, nI_toInt hm] at q
    omega
  · exact q
theorem inR07_of {x : Int32} (h : inR x 0 7 = true) : ∃ j : Nat, j < 8 ∧ x = nI j := inR_of (m := 7) (by omega) h
theorem inR02_of {x : Int32} (h : inR x 0 2 = true) : ∃ j : Nat, j < 3 ∧ x = nI j := inR_of (m := 2) (by omega) h
theorem inR015_of {x : Int32} (h : inR x 0 15 = true) : ∃ j : Nat, j < 16 ∧ x = nI j := inR_of (m := 15) (by omega) h
def goneM (μ : MS) (x : Int32) : Bool := !(inR x 0 7) || decide (μ 1 (pn x) = 0)
theorem goneM_of {μ : MS} {x : Int32} (h : ¬ goneM μ x = true) : ∃ j : Nat, j < 8 ∧ x = nI j := by
  refine inR07_of (x := x) ?_
  cases e : inR x 0 7 with
  | true => rfl
  | false => simp [goneM, e] at h
def noExtM (μ : MS) (x : Int32) : Bool := !(inR x 0 (μ 31 0 - 1)) || decide (¬ 0 ≤ μ 7 (pn x))
theorem inRm_of {n : Nat} (hn : n ≤ 16) {x : Int32} (h : inR x 0 (nI n - 1) = true) : ∃ j : Nat, j < n ∧ x = nI j := by
  rcases Nat.eq_zero_or_pos n with e | e
  · subst e
    have h := of_decide_eq_true h
    exfalso
    have h1 := h.1
    have h2 := h.2
    rw [Int32.lt_iff_toInt_lt] at h1 h2
    rw [show (nI 0 - 1 : Int32).toInt = -1 from by decide] at h2
    rw [show (0 : Int32).toInt = 0 from rfl] at h1
    omega
  · rw [show nI n - 1 = nI (n - 1) from pk_sub (a := n) (b := 1) (by omega)] at h
    obtain ⟨j, h1, h2⟩ := inR_of (by omega) h
    exact ⟨j, by omega, h2⟩
def m_tell (μ : MS) (x : Int32) : MS := upd2 (upd2 μ 16 (lo4 (μ 33 0)) x) 33 0 (μ 33 0 + 1)
def m_install (μ : MS) (x : Int32) : Int32 × MS := if inR x 0 7 = true ∧ μ 1 (pn x) = 0 then (0, upd2 μ 1 (pn x) 1) else (-1, μ)
def m_clear (μ : MS) (i : Nat) : MS := upd2 (upd2 (upd2 (upd2 μ 1 i 0) 2 i 0) 3 i 0) 4 i 0
def m_unl (μ : MS) (x : Int32) : Nat → MS
  | 0 => μ
  | n + 1 => if m_unl μ x n 7 n = x then upd2 (m_unl μ x n) 7 n (-1) else m_unl μ x n
theorem m_unl_t {μ : MS} {x : Int32} {n : Nat} (h : m_unl μ x n 7 n = x) : m_unl μ x (n + 1) = upd2 (m_unl μ x n) 7 n (-1) := if_pos h
theorem m_unl_f {μ : MS} {x : Int32} {n : Nat} (h : ¬ m_unl μ x n 7 n = x) : m_unl μ x (n + 1) = m_unl μ x n := if_neg h
theorem m_unl_31 {μ : MS} {x : Int32} {n : Nat} : m_unl μ x n 31 0 = μ 31 0 := by
  induction n with
  | zero => rfl
  | succ n ih =>
    simp only [m_unl]
    split
    · exact ih
    · exact ih
def m_uninstall (μ : MS) (x : Int32) : Int32 × MS := if inR x 0 7 = true ∧ μ 1 (pn x) = 1 then (0, m_unl (m_clear μ (pn x)) x (pn (μ 31 0))) else (-1, μ)
def m_bits (v : Int32) : Nat → Int32
  | 0 => 0
  | n + 1 => m_bits v n + ((v >>> (nI n &&& 31)) &&& 1)
def m_need (μ : MS) (x1 x2 x3 : Int32) : Int32 × MS :=
  if ¬ goneM μ x1 = true ∧ inR x2 0 7 = true ∧ ¬ x2 = x1 ∧ ((μ 2 (pn x1) ||| μ 3 (pn x1)) >>> (x2 &&& 31)) &&& 1 = 0 then
    (if x3 = 0 then (m_bits ((μ 2 (pn x1) ||| (1 <<< (x2 &&& 31))) ||| μ 3 (pn x1)) 8, upd2 μ 2 (pn x1) (μ 2 (pn x1) ||| (1 <<< (x2 &&& 31))))
     else (m_bits (μ 2 (pn x1) ||| (μ 3 (pn x1) ||| (1 <<< (x2 &&& 31)))) 8, upd2 μ 3 (pn x1) (μ 3 (pn x1) ||| (1 <<< (x2 &&& 31)))))
  else (-1, μ)
def m_serve (μ : MS) (x1 x2 x3 : Int32) : Int32 × MS :=
  if ¬ goneM μ x1 = true ∧ inR x2 0 2 = true ∧ (x2 = 2 → inR x3 0 9 = true) then (0, upd2 (upd2 μ 4 (pn x1) x2) 5 (pn x1) x3) else (-1, μ)
def m_ext6 (μ : MS) (n : Nat) (x1 x2 x3 x4 x5 : Int32) : MS := upd2 (upd2 (upd2 (upd2 (upd2 μ 7 n x1) 8 n x2) 9 n x3) 10 n x4) 11 n x5
def m_extend (μ : MS) (x1 x2 x3 x4 x5 : Int32) : Int32 × MS :=
  if ¬ goneM μ x1 = true ∧ inR x2 0 2 = true ∧ inR x3 0 8 = true then
    (if pn (μ 31 0) = 16 then (-2, μ) else (nI (pn (μ 31 0)), upd2 (m_ext6 μ (pn (μ 31 0)) x1 x2 x3 x4 x5) 31 0 (nI (pn (μ 31 0) + 1))))
  else (-1, μ)
def m_bs (μ : MS) (i : Nat) : Int32 := if μ 1 i = 0 then -3 else if μ 1 i = 2 then 0 else if μ 19 i = 0 then 1 else -4
def m_cnt (μ : MS) : Nat → Int32
  | 0 => 0
  | n + 1 => if μ 1 n = 2 then m_cnt μ n + 1 else m_cnt μ n
def liveM (μ : MS) (e : Nat) : Bool := decide (¬ μ 7 e < 0) && decide (μ 1 (pn (μ 7 e)) = 2) && decide (μ 14 e = 0)
def plM (μ : MS) : Prop := ∀ e, e < 16 → μ 7 e < 0 ∨ ∃ j, j < 8 ∧ μ 7 e = nI j
def m_forgive (μ : MS) (x : Int32) : Int32 × MS := if ¬ noExtM μ x = true ∧ ¬ μ 14 (pn x) = 0 then (0, upd2 (upd2 μ 14 (pn x) 0) 12 (pn x) 0) else (-1, μ)
def m_state (μ : MS) (x : Int32) : Int32 := if inR x 0 7 = true then μ 1 (pn x) else -1
def m_extension (μ : MS) (x w : Int32) : Int32 := if ¬ noExtM μ x = true then (if w = 0 then μ 7 (pn x) else if w = 1 then μ 8 (pn x) else if w = 2 then μ 9 (pn x) else if w = 3 then μ 12 (pn x) else if w = 4 then μ 13 (pn x) else if w = 5 then (if μ 14 (pn x) = 0 then (if liveM μ (pn x) = true then 1 else 0) else 2) else -1) else -1
theorem noExtM_of {μ : MS} {n : Nat} (hn : n ≤ 16) (hm : μ 31 0 = nI n) {x : Int32} (h : ¬ noExtM μ x = true) : ∃ j : Nat, j < n ∧ x = nI j := by
  refine inRm_of hn (x := x) ?_
  rw [← hm]
  cases e : inR x 0 (μ 31 0 - 1) with
  | true => rfl
  | false => simp [noExtM, e] at h
def m_fault (μ : MS) (k w : Int32) : Int32 := if inR k 0 7 = true ∧ ¬ μ 32 0 ≤ k ∧ inR w 0 2 = true then μ 15 (3 * lo3 (μ 32 0 - 1 - k) + pn w) else -1
def m_event (μ : MS) (k : Int32) : Int32 := if inR k 0 15 = true ∧ ¬ μ 33 0 ≤ k then μ 16 (lo4 (μ 33 0 - 1 - k)) else -1
def m_shutN (μ : MS) : Nat → Int32
  | 0 => 0
  | n + 1 => if ¬ μ 7 n < 0 ∧ ¬ μ 14 n = 0 then m_shutN μ n + 1 else m_shutN μ n
def m_count (μ : MS) (w : Int32) : Int32 := if w = 0 then m_cnt μ 8 else if w = 1 then μ 31 0 else if w = 2 then μ 32 0 else if w = 3 then μ 33 0 else if w = 4 then m_shutN μ (pn (μ 31 0)) else -1
set_option maxRecDepth 100000 in
set_option maxHeartbeats 800000 in
theorem cM_in (l : Launch) (D : va_G) (cA : Nat → ClassId) {ad : Nat → Nat} (hJ : kw_J 24 ad) (μ : MS) (x1 x2 x3 : Int32) : kx_Met l yM_in (.code yM_in bM_in 3 (Option.some .boolean) :: kw_T) (kw_R 0) D (kx_tys cA) 24 ad (wM cA ad) μ [.int x1, .int x2, .int x3] (fun r9 u9 => r9 = some (.int (bI (inR x1 x2 x3 = true))) ∧ μ = u9) := by
  refine kx_of hJ (by decide +kernel) (Nat.le_of_ble_eq_true rfl) ?_
  intro p e s m args below meth c CX ls hl hP hS
  obtain ⟨hx, hb, hr, hml, hown, hts, hlk, hK, hJ1, hZ⟩ := id CX
  have hl : lv_has ls 3 [(0, .int x1), (1, .int x2), (2, .int x3)] := hl
  refine lv_iload_n hx hb dM_in_0 rfl (lv_at hl 0 rfl) ?_
  refine lv_iload_n hx hb dM_in_1 rfl (lv_at hl 1 rfl) ?_
  refine lv_icmp_lt (tgt := 14) hx hb dM_in_2 (by decide) (fun c_2 => ?_) (fun c_2 => ?_)
  · skip
    refine lv_iconst (v := 0) hx hb dM_in_14 (by decide) ?_
    exact kx_zret (σ' := μ) CX (by decide) hP hS dM_in_15 (by constructor <;> simp [bI, c_2, inR])
  · skip
    refine lv_iload_n hx hb dM_in_5 rfl (lv_at hl 0 rfl) ?_
    refine lv_iload_n hx hb dM_in_6 rfl (lv_at hl 2 rfl) ?_
    refine lv_icmp_gt (tgt := 14) hx hb dM_in_7 (by decide) (fun c_7 => ?_) (fun c_7 => ?_)
    · skip
      refine lv_iconst (v := 0) hx hb dM_in_14 (by decide) ?_
      exact kx_zret (σ' := μ) CX (by decide) hP hS dM_in_15 (by constructor <;> simp [bI, c_2, c_7, inR])
    · skip
      refine lv_iconst (v := 1) hx hb dM_in_10 (by decide) ?_
      refine lv_goto (tgt := 15) hx hb dM_in_11 (by decide) ?_
      exact kx_zret (σ' := μ) CX (by decide) hP hS dM_in_15 (by constructor <;> simp [bI, c_2, c_7, inR])
set_option maxRecDepth 100000 in
set_option maxHeartbeats 800000 in
theorem cM_gone (l : Launch) (D : va_G) (cA : Nat → ClassId) {ad : Nat → Nat} (hJ : kw_J 24 ad) (μ : MS) (x1 : Int32) : kx_Met l yM_gone (.code yM_gone bM_gone 2 (Option.some .boolean) :: kw_T) (kw_R 1) D (kx_tys cA) 24 ad (wM cA ad) μ [.ref (ad 0), .int x1] (fun r9 u9 => r9 = some (.int (bI (goneM μ x1 = true))) ∧ μ = u9) := by
  refine kx_of hJ (by decide +kernel) (Nat.le_of_ble_eq_true rfl) ?_
  intro p e s m args below meth c CX ls hl hP hS
  obtain ⟨hx, hb, hr, hml, hown, hts, hlk, hK, hJ1, hZ⟩ := id CX
  have hl : lv_has ls 2 [(0, .ref (ad 0)), (1, .int x1)] := hl
  refine lv_iload_n hx hb dM_gone_0 rfl (lv_at hl 1 rfl) ?_
  refine lv_iconst (v := 0) hx hb dM_gone_1 (by decide) ?_
  refine lv_bipush (v := 7) hx hb dM_gone_2 (by decide) ?_
  refine kx_callS1 (σ1 := μ) (v := .int (bI (inR x1 0 7 = true))) (n := 3) (As := [.int x1, .int 0, .int 7]) (rest := []) CX hP hS hl.1 (cM_in l D cA hJ μ x1 0 7) wl_445 wl_446 wl_5 wl_447 ⟨by decide +kernel, by decide +kernel, by decide +kernel⟩ (kw_R_ok (by omega) (by omega)) ⟨rfl, rfl⟩ rfl rfl (Nat.le_of_ble_eq_true rfl) dM_gone_4 (fun H locs hP hS => ?_)
  refine lv_if_eq (tgt := 19) hx hb dM_gone_7 (by decide) (fun c_7 => ?_) (fun c_7 => ?_)
  · have c_7 := bI_eq0.mp c_7
    refine lv_iconst (v := 1) hx hb dM_gone_19 (by decide) ?_
    refine lv_goto (tgt := 24) hx hb dM_gone_20 (by decide) ?_
    exact kx_zret (σ' := μ) CX (by decide) hP hS dM_gone_24 (by constructor <;> simp [bI, c_7, goneM])
  · have c_7 := bI_ne0.mp c_7
    obtain ⟨j, hj, rfl⟩ := inR07_of c_7
    have ej : pn (nI j) = j := pn_nI (by omega)
    refine lv_aload_n hx hb dM_gone_10 rfl (lv_at hl 0 rfl) ?_
    refine mM_get CX hP 0 (by omega) wl_351 rfl dM_gone_11 ?_
    refine lv_iload_n hx hb dM_gone_14 rfl (lv_at hl 1 rfl) ?_
    refine mA_ld CX hP 1 (by omega) (by omega) 8 rfl j (rfl) (by omega) dM_gone_15 ?_
    refine lv_if_ne (tgt := 23) hx hb dM_gone_16 (by decide) (fun c_16 => ?_) (fun c_16 => ?_)
    · skip
      refine lv_iconst (v := 0) hx hb dM_gone_23 (by decide) ?_
      exact kx_zret (σ' := μ) CX (by decide) hP hS dM_gone_24 (by constructor <;> simp [bI, c_7, ej, c_16, goneM])
    · skip
      refine lv_iconst (v := 1) hx hb dM_gone_19 (by decide) ?_
      refine lv_goto (tgt := 24) hx hb dM_gone_20 (by decide) ?_
      exact kx_zret (σ' := μ) CX (by decide) hP hS dM_gone_24 (by constructor <;> simp [bI, c_7, ej, c_16, goneM])
set_option maxRecDepth 100000 in
set_option maxHeartbeats 800000 in
theorem cM_noExtension (l : Launch) (D : va_G) (cA : Nat → ClassId) {ad : Nat → Nat} (hJ : kw_J 24 ad) (μ : MS) (x1 : Int32) (n : Nat) (hn : n ≤ 16) (hm9 : μ 31 0 = nI n) : kx_Met l yM_noExtension (.code yM_noExtension bM_noExtension 2 (Option.some .boolean) :: kw_T) (kw_R 1) D (kx_tys cA) 24 ad (wM cA ad) μ [.ref (ad 0), .int x1] (fun r9 u9 => r9 = some (.int (bI (noExtM μ x1 = true))) ∧ μ = u9) := by
  refine kx_of hJ (by decide +kernel) (Nat.le_of_ble_eq_true rfl) ?_
  intro p e s m args below meth c CX ls hl hP hS
  obtain ⟨hx, hb, hr, hml, hown, hts, hlk, hK, hJ1, hZ⟩ := id CX
  have hl : lv_has ls 2 [(0, .ref (ad 0)), (1, .int x1)] := hl
  refine lv_iload_n hx hb dM_noExtension_0 rfl (lv_at hl 1 rfl) ?_
  refine lv_iconst (v := 0) hx hb dM_noExtension_1 (by decide) ?_
  refine lv_aload_n hx hb dM_noExtension_2 rfl (lv_at hl 0 rfl) ?_
  refine mM_get CX hP 7 (by omega) wl_358 rfl dM_noExtension_3 ?_
  refine kx_topi (v' := nI n) (hm9) ?_
  refine lv_iconst (v := 1) hx hb dM_noExtension_6 (by decide) ?_
  refine lv_isub hx hb dM_noExtension_7 ?_
  refine kx_callS1 (σ1 := μ) (v := .int (bI (inR x1 0 ((nI n) - 1) = true))) (n := 3) (As := [.int x1, .int 0, .int ((nI n) - 1)]) (rest := []) CX hP hS hl.1 (cM_in l D cA hJ μ x1 0 ((nI n) - 1)) wl_445 wl_446 wl_5 wl_447 ⟨by decide +kernel, by decide +kernel, by decide +kernel⟩ (kw_R_ok (by omega) (by omega)) ⟨rfl, rfl⟩ rfl rfl (Nat.le_of_ble_eq_true rfl) dM_noExtension_8 (fun H locs hP hS => ?_)
  refine lv_if_eq (tgt := 23) hx hb dM_noExtension_11 (by decide) (fun c_11 => ?_) (fun c_11 => ?_)
  · have c_11 := bI_eq0.mp c_11
    refine lv_iconst (v := 1) hx hb dM_noExtension_23 (by decide) ?_
    refine lv_goto (tgt := 28) hx hb dM_noExtension_24 (by decide) ?_
    exact kx_zret (σ' := μ) CX (by decide) hP hS dM_noExtension_28 (by constructor <;> simp [bI, c_11, noExtM, hm9])
  · have c_11 := bI_ne0.mp c_11
    obtain ⟨j, hj, rfl⟩ := inRm_of hn c_11
    have ej : pn (nI j) = j := pn_nI (by omega)
    refine lv_aload_n hx hb dM_noExtension_14 rfl (lv_at hl 0 rfl) ?_
    refine mM_get CX hP 8 (by omega) wl_359 rfl dM_noExtension_15 ?_
    refine lv_iload_n hx hb dM_noExtension_18 rfl (lv_at hl 1 rfl) ?_
    refine mA_ld CX hP 7 (by omega) (by omega) 16 rfl j (rfl) (by omega) dM_noExtension_19 ?_
    refine lv_if_ge (tgt := 27) hx hb dM_noExtension_20 (by decide) (fun c_20 => ?_) (fun c_20 => ?_)
    · skip
      refine lv_iconst (v := 0) hx hb dM_noExtension_27 (by decide) ?_
      exact kx_zret (σ' := μ) CX (by decide) hP hS dM_noExtension_28 (by constructor <;> simp [bI, c_11, ej, c_20, noExtM, hm9])
    · skip
      refine lv_iconst (v := 1) hx hb dM_noExtension_23 (by decide) ?_
      refine lv_goto (tgt := 28) hx hb dM_noExtension_24 (by decide) ?_
      exact kx_zret (σ' := μ) CX (by decide) hP hS dM_noExtension_28 (by constructor <;> simp [bI, c_11, ej, c_20, noExtM, hm9])
set_option maxRecDepth 100000 in
set_option maxHeartbeats 800000 in
theorem cM_tell (l : Launch) (D : va_G) (cA : Nat → ClassId) {ad : Nat → Nat} (hJ : kw_J 24 ad) (μ : MS) (x1 : Int32) : kx_Met l yM_tell (.code yM_tell bM_tell 2 none :: kw_T) (kw_R 0) D (kx_tys cA) 24 ad (wM cA ad) μ [.ref (ad 0), .int x1] (fun r9 u9 => r9 = none ∧ m_tell μ x1 = u9) := by
  refine kx_of hJ (by decide +kernel) (Nat.le_of_ble_eq_true rfl) ?_
  intro p e s m args below meth c CX ls hl hP hS
  obtain ⟨hx, hb, hr, hml, hown, hts, hlk, hK, hJ1, hZ⟩ := id CX
  have hl : lv_has ls 2 [(0, .ref (ad 0)), (1, .int x1)] := hl
  refine lv_aload_n hx hb dM_tell_0 rfl (lv_at hl 0 rfl) ?_
  refine mM_get CX hP 19 (by omega) wl_370 rfl dM_tell_1 ?_
  refine lv_aload_n hx hb dM_tell_4 rfl (lv_at hl 0 rfl) ?_
  refine mM_get CX hP 18 (by omega) wl_369 rfl dM_tell_5 ?_
  refine lv_bipush (v := 15) hx hb dM_tell_8 (by decide) ?_
  refine lv_iand hx hb dM_tell_10 ?_
  refine lv_iload_n hx hb dM_tell_11 rfl (lv_at hl 1 rfl) ?_
  refine mA_st CX hP hS 16 (by omega) (by omega) 16 rfl (lo4 (μ 33 0)) (and15 _) (lo4_lt _) dM_tell_12 (fun H locs hP hS => ?_)
  refine lv_aload_n hx hb dM_tell_13 rfl (lv_at hl 0 rfl) ?_
  refine lv_dup hx hb dM_tell_14 rfl ?_
  refine mM_get CX hP 18 (by omega) wl_369 rfl dM_tell_15 ?_
  refine kx_topi (v' := μ 33 0) rfl ?_
  refine lv_iconst (v := 1) hx hb dM_tell_18 (by decide) ?_
  refine lv_iadd hx hb dM_tell_19 ?_
  refine mM_put CX hP hS 18 (by omega) 33 rfl wl_369 dM_tell_20 (fun H locs hP hS => ?_)
  exact kx_vret (σ' := upd2 (upd2 μ 16 (lo4 (μ 33 0)) x1) 33 0 ((μ 33 0) + 1)) CX hP hS dM_tell_23 (⟨rfl, rfl⟩)
set_option maxRecDepth 100000 in
set_option maxHeartbeats 800000 in
theorem cM_install (l : Launch) (D : va_G) (cA : Nat → ClassId) {ad : Nat → Nat} (hJ : kw_J 24 ad) (μ : MS) (x1 : Int32) : kx_Met l yM_install (.code yM_install bM_install 2 (Option.some .int) :: kw_T) (kw_R 1) D (kx_tys cA) 24 ad (wM cA ad) μ [.ref (ad 0), .int x1] (fun r9 u9 => r9 = some (.int ((m_install μ x1).1)) ∧ (m_install μ x1).2 = u9) := by
  refine kx_of hJ (by decide +kernel) (Nat.le_of_ble_eq_true rfl) ?_
  intro p e s m args below meth c CX ls hl hP hS
  obtain ⟨hx, hb, hr, hml, hown, hts, hlk, hK, hJ1, hZ⟩ := id CX
  have hl : lv_has ls 2 [(0, .ref (ad 0)), (1, .int x1)] := hl
  refine lv_iload_n hx hb dM_install_0 rfl (lv_at hl 1 rfl) ?_
  refine lv_iconst (v := 0) hx hb dM_install_1 (by decide) ?_
  refine lv_bipush (v := 7) hx hb dM_install_2 (by decide) ?_
  refine kx_callS1 (σ1 := μ) (v := .int (bI (inR x1 0 7 = true))) (n := 3) (As := [.int x1, .int 0, .int 7]) (rest := []) CX hP hS hl.1 (cM_in l D cA hJ μ x1 0 7) wl_445 wl_446 wl_5 wl_447 ⟨by decide +kernel, by decide +kernel, by decide +kernel⟩ (kw_R_ok (by omega) (by omega)) ⟨rfl, rfl⟩ rfl rfl (Nat.le_of_ble_eq_true rfl) dM_install_4 (fun H locs hP hS => ?_)
  refine lv_if_eq (tgt := 19) hx hb dM_install_7 (by decide) (fun c_7 => ?_) (fun c_7 => ?_)
  · have c_7 := bI_eq0.mp c_7
    refine lv_iconst (v := (-1)) hx hb dM_install_19 (by decide) ?_
    exact kx_iret (σ' := μ) CX hP hS dM_install_20 (by constructor <;> simp [bI, c_7, m_install])
  · have c_7 := bI_ne0.mp c_7
    obtain ⟨j, hj, rfl⟩ := inR07_of c_7
    have ej : pn (nI j) = j := pn_nI (by omega)
    refine lv_aload_n hx hb dM_install_10 rfl (lv_at hl 0 rfl) ?_
    refine mM_get CX hP 0 (by omega) wl_351 rfl dM_install_11 ?_
    refine lv_iload_n hx hb dM_install_14 rfl (lv_at hl 1 rfl) ?_
    refine mA_ld CX hP 1 (by omega) (by omega) 8 rfl j (rfl) (by omega) dM_install_15 ?_
    refine lv_if_eq (tgt := 21) hx hb dM_install_16 (by decide) (fun c_16 => ?_) (fun c_16 => ?_)
    · skip
      refine lv_aload_n hx hb dM_install_21 rfl (lv_at hl 0 rfl) ?_
      refine mM_get CX hP 0 (by omega) wl_351 rfl dM_install_22 ?_
      refine lv_iload_n hx hb dM_install_25 rfl (lv_at hl 1 rfl) ?_
      refine lv_iconst (v := 1) hx hb dM_install_26 (by decide) ?_
      refine mA_st CX hP hS 1 (by omega) (by omega) 8 rfl j (rfl) (by omega) dM_install_27 (fun H locs hP hS => ?_)
      refine lv_iconst (v := 0) hx hb dM_install_28 (by decide) ?_
      exact kx_iret (σ' := upd2 μ 1 j 1) CX hP hS dM_install_29 (by constructor <;> simp [bI, c_7, ej, c_16, m_install])
    · skip
      refine lv_iconst (v := (-1)) hx hb dM_install_19 (by decide) ?_
      exact kx_iret (σ' := μ) CX hP hS dM_install_20 (by constructor <;> simp [bI, c_7, ej, c_16, m_install])
set_option maxRecDepth 100000 in
set_option maxHeartbeats 800000 in
theorem cM_uninstall (l : Launch) (D : va_G) (cA : Nat → ClassId) {ad : Nat → Nat} (hJ : kw_J 24 ad) (μ : MS) (x1 : Int32) (n : Nat) (hn : n ≤ 16) (hm9 : μ 31 0 = nI n) : kx_Met l yM_uninstall (.code yM_uninstall bM_uninstall 3 (Option.some .int) :: kw_T) (kw_R 1) D (kx_tys cA) 24 ad (wM cA ad) μ [.ref (ad 0), .int x1] (fun r9 u9 => r9 = some (.int ((m_uninstall μ x1).1)) ∧ (m_uninstall μ x1).2 = u9) := by
  have en : pn (nI n) = n := pn_nI (by omega)
  refine kx_of hJ (by decide +kernel) (Nat.le_of_ble_eq_true rfl) ?_
  intro p e s m args below meth c CX ls hl hP hS
  obtain ⟨hx, hb, hr, hml, hown, hts, hlk, hK, hJ1, hZ⟩ := id CX
  have hl : lv_has ls 3 [(0, .ref (ad 0)), (1, .int x1)] := hl
  refine lv_iload_n hx hb dM_uninstall_0 rfl (lv_at hl 1 rfl) ?_
  refine lv_iconst (v := 0) hx hb dM_uninstall_1 (by decide) ?_
  refine lv_bipush (v := 7) hx hb dM_uninstall_2 (by decide) ?_
  refine kx_callS1 (σ1 := μ) (v := .int (bI (inR x1 0 7 = true))) (n := 3) (As := [.int x1, .int 0, .int 7]) (rest := []) CX hP hS hl.1 (cM_in l D cA hJ μ x1 0 7) wl_445 wl_446 wl_5 wl_447 ⟨by decide +kernel, by decide +kernel, by decide +kernel⟩ (kw_R_ok (by omega) (by omega)) ⟨rfl, rfl⟩ rfl rfl (Nat.le_of_ble_eq_true rfl) dM_uninstall_4 (fun H locs hP hS => ?_)
  refine lv_if_eq (tgt := 20) hx hb dM_uninstall_7 (by decide) (fun c_7 => ?_) (fun c_7 => ?_)
  · have c_7 := bI_eq0.mp c_7
    refine lv_iconst (v := (-1)) hx hb dM_uninstall_20 (by decide) ?_
    exact kx_iret (σ' := μ) CX hP hS dM_uninstall_21 (by constructor <;> simp [bI, c_7, m_uninstall])
  · have c_7 := bI_ne0.mp c_7
    obtain ⟨j, hj, rfl⟩ := inR07_of c_7
    have ej : pn (nI j) = j := pn_nI (by omega)
    refine lv_aload_n hx hb dM_uninstall_10 rfl (lv_at hl 0 rfl) ?_
    refine mM_get CX hP 0 (by omega) wl_351 rfl dM_uninstall_11 ?_
    refine lv_iload_n hx hb dM_uninstall_14 rfl (lv_at hl 1 rfl) ?_
    refine mA_ld CX hP 1 (by omega) (by omega) 8 rfl j (rfl) (by omega) dM_uninstall_15 ?_
    refine lv_iconst (v := 1) hx hb dM_uninstall_16 (by decide) ?_
    refine lv_icmp_eq (tgt := 22) hx hb dM_uninstall_17 (by decide) (fun c_17 => ?_) (fun c_17 => ?_)
    · skip
      refine lv_aload_n hx hb dM_uninstall_22 rfl (lv_at hl 0 rfl) ?_
      refine mM_get CX hP 0 (by omega) wl_351 rfl dM_uninstall_23 ?_
      refine lv_iload_n hx hb dM_uninstall_26 rfl (lv_at hl 1 rfl) ?_
      refine lv_iconst (v := 0) hx hb dM_uninstall_27 (by decide) ?_
      refine mA_st CX hP hS 1 (by omega) (by omega) 8 rfl j (rfl) (by omega) dM_uninstall_28 (fun H locs hP hS => ?_)
      refine lv_aload_n hx hb dM_uninstall_29 rfl (lv_at hl 0 rfl) ?_
      refine mM_get CX hP 1 (by omega) wl_352 rfl dM_uninstall_30 ?_
      refine lv_iload_n hx hb dM_uninstall_33 rfl (lv_at hl 1 rfl) ?_
      refine lv_iconst (v := 0) hx hb dM_uninstall_34 (by decide) ?_
      refine mA_st CX hP hS 2 (by omega) (by omega) 8 rfl j (rfl) (by omega) dM_uninstall_35 (fun H locs hP hS => ?_)
      refine lv_aload_n hx hb dM_uninstall_36 rfl (lv_at hl 0 rfl) ?_
      refine mM_get CX hP 2 (by omega) wl_353 rfl dM_uninstall_37 ?_
      refine lv_iload_n hx hb dM_uninstall_40 rfl (lv_at hl 1 rfl) ?_
      refine lv_iconst (v := 0) hx hb dM_uninstall_41 (by decide) ?_
      refine mA_st CX hP hS 3 (by omega) (by omega) 8 rfl j (rfl) (by omega) dM_uninstall_42 (fun H locs hP hS => ?_)
      refine lv_aload_n hx hb dM_uninstall_43 rfl (lv_at hl 0 rfl) ?_
      refine mM_get CX hP 3 (by omega) wl_354 rfl dM_uninstall_44 ?_
      refine lv_iload_n hx hb dM_uninstall_47 rfl (lv_at hl 1 rfl) ?_
      refine lv_iconst (v := 0) hx hb dM_uninstall_48 (by decide) ?_
      refine mA_st CX hP hS 4 (by omega) (by omega) 8 rfl j (rfl) (by omega) dM_uninstall_49 (fun H locs hP hS => ?_)
      refine lv_iconst (v := 0) hx hb dM_uninstall_50 (by decide) ?_
      refine lv_istore_n (lv' := [(2, .int 0), (0, .ref (ad 0)), (1, .int (nI j))]) hx hb dM_uninstall_51 rfl hl (by decide) rfl (fun ls hl => ?_)
      have loop_52 : ∀ (fu : Nat) (i : Nat) (v : MS), (i ≤ n) → (v = m_unl (m_clear μ j) (nI j) i) → n - i < fu → ∀ (H : Heap) (locs : List Loc), va_P D classes (kw_W 24 ad (wM cA ad v)) H → va_S (kw_A 24 ad s.heap.size) s.heap H locs → ∀ (ls : Array Slot), lv_has ls 3 [(0, .ref (ad 0)), (1, .int (nI j)), (2, .int (nI i))] → W p l e (kw_R 1) s m args below meth c H locs 0 0 (kx_Q below D 24 ad (wM cA ad) (fun r9 u9 => r9 = some (.int ((m_uninstall μ (nI j)).1)) ∧ (m_uninstall μ (nI j)).2 = u9) args s) (F0 m 52 ls []) := by
        intro fu52
        induction fu52 with
        | zero => intro i v hi hv hm52; exact absurd hm52 (Nat.not_lt_zero _)
        | succ fu52 ih52 =>
          intro i v hi hv hm52 H locs hP hS ls hl
          refine lv_iload_n hx hb dM_uninstall_52 rfl (lv_at hl 2 rfl) ?_
          refine lv_aload_n hx hb dM_uninstall_53 rfl (lv_at hl 0 rfl) ?_
          refine mM_get CX hP 7 (by omega) wl_358 rfl dM_uninstall_54 ?_
          refine kx_topi (v' := nI n) (by rw [hv, m_unl_31]; exact hm9) ?_
          refine lv_icmp_ge (tgt := 83) hx hb dM_uninstall_57 (by decide) (fun c_57 => ?_) (fun c_57 => ?_)
          · have c_57i := c_57
            have c_57 : n ≤ i := (nI_le' (a := n) (b := i) (by omega) (by omega)).mp c_57
            refine lv_iconst (v := 0) hx hb dM_uninstall_83 (by decide) ?_
            exact kx_iret (σ' := v) CX hP hS dM_uninstall_84 (by (have hin : i = n := by omega); subst hin; rw [hv]; constructor <;> simp [m_uninstall, c_7, c_17, ej, hm9, en])
          · have c_57i := c_57
            have c_57 : ¬ (n ≤ i) := fun hq9 => c_57 ((nI_le' (a := n) (b := i) (by omega) (by omega)).mpr hq9)
            refine lv_aload_n hx hb dM_uninstall_60 rfl (lv_at hl 0 rfl) ?_
            refine mM_get CX hP 8 (by omega) wl_359 rfl dM_uninstall_61 ?_
            refine lv_iload_n hx hb dM_uninstall_64 rfl (lv_at hl 2 rfl) ?_
            refine mA_ld CX hP 7 (by omega) (by omega) 16 rfl i (rfl) (by omega) dM_uninstall_65 ?_
            refine lv_iload_n hx hb dM_uninstall_66 rfl (lv_at hl 1 rfl) ?_
            refine lv_icmp_ne (tgt := 77) hx hb dM_uninstall_67 (by decide) (fun c_67 => ?_) (fun c_67 => ?_)
            · skip
              refine lv_iinc (v := nI (i + 1)) (lv' := [(2, .int (nI (i + 1))), (0, .ref (ad 0)), (1, .int (nI j))]) hx hb dM_uninstall_77 hl (k := 2) rfl (nI_i1 i) (by decide) rfl (fun ls hl => ?_)
              refine lv_goto (tgt := 52) hx hb dM_uninstall_80 (by decide) ?_
              exact ih52 (i + 1) v (by omega) (by rw [hv] at c_67 ⊢; exact (m_unl_f c_67).symm) (by omega) _ _ hP hS ls (lv_sub hl [1, 2, 0] rfl)
            · skip
              refine lv_aload_n hx hb dM_uninstall_70 rfl (lv_at hl 0 rfl) ?_
              refine mM_get CX hP 8 (by omega) wl_359 rfl dM_uninstall_71 ?_
              refine lv_iload_n hx hb dM_uninstall_74 rfl (lv_at hl 2 rfl) ?_
              refine lv_iconst (v := (-1)) hx hb dM_uninstall_75 (by decide) ?_
              refine mA_st CX hP hS 7 (by omega) (by omega) 16 rfl i (rfl) (by omega) dM_uninstall_76 (fun H locs hP hS => ?_)
              refine lv_iinc (v := nI (i + 1)) (lv' := [(2, .int (nI (i + 1))), (0, .ref (ad 0)), (1, .int (nI j))]) hx hb dM_uninstall_77 hl (k := 2) rfl (nI_i1 i) (by decide) rfl (fun ls hl => ?_)
              refine lv_goto (tgt := 52) hx hb dM_uninstall_80 (by decide) ?_
              exact ih52 (i + 1) (upd2 v 7 i (-1)) (by omega) (by rw [hv] at c_67 ⊢; exact (m_unl_t c_67).symm) (by omega) _ _ hP hS ls (lv_sub hl [1, 2, 0] rfl)
      exact loop_52 ((n - 0) + 1) 0 (upd2 (upd2 (upd2 (upd2 μ 1 j 0) 2 j 0) 3 j 0) 4 j 0) (by omega) rfl (Nat.lt_succ_self _) _ _ hP hS ls (lv_sub hl [1, 2, 0] rfl)
    · skip
      refine lv_iconst (v := (-1)) hx hb dM_uninstall_20 (by decide) ?_
      exact kx_iret (σ' := μ) CX hP hS dM_uninstall_21 (by constructor <;> simp [bI, c_7, ej, c_17, m_uninstall])
set_option maxRecDepth 100000 in
set_option maxHeartbeats 800000 in
theorem cM_bits (l : Launch) (D : va_G) (cA : Nat → ClassId) {ad : Nat → Nat} (hJ : kw_J 24 ad) (μ : MS) (x1 : Int32) : kx_Met l yM_bits (.code yM_bits bM_bits 3 (Option.some .int) :: kw_T) (kw_R 0) D (kx_tys cA) 24 ad (wM cA ad) μ [.int x1] (fun r9 u9 => r9 = some (.int (m_bits x1 8)) ∧ μ = u9) := by
  refine kx_of hJ (by decide +kernel) (Nat.le_of_ble_eq_true rfl) ?_
  intro p e s m args below meth c CX ls hl hP hS
  obtain ⟨hx, hb, hr, hml, hown, hts, hlk, hK, hJ1, hZ⟩ := id CX
  have hl : lv_has ls 3 [(0, .int x1)] := hl
  refine lv_iconst (v := 0) hx hb dM_bits_0 (by decide) ?_
  refine lv_istore_n (lv' := [(1, .int 0), (0, .int x1)]) hx hb dM_bits_1 rfl hl (by decide) rfl (fun ls hl => ?_)
  refine lv_iconst (v := 0) hx hb dM_bits_2 (by decide) ?_
  refine lv_istore_n (lv' := [(2, .int 0), (1, .int 0), (0, .int x1)]) hx hb dM_bits_3 rfl hl (by decide) rfl (fun ls hl => ?_)
  have loop_4 : ∀ (fu : Nat) (i : Nat) (r : Int32), (i ≤ 8) → (r = m_bits x1 i) → 8 - i < fu → ∀ (H : Heap) (locs : List Loc), va_P D classes (kw_W 24 ad (wM cA ad μ)) H → va_S (kw_A 24 ad s.heap.size) s.heap H locs → ∀ (ls : Array Slot), lv_has ls 3 [(0, .int x1), (1, .int r), (2, .int (nI i))] → W p l e (kw_R 0) s m args below meth c H locs 0 0 (kx_Q below D 24 ad (wM cA ad) (fun r9 u9 => r9 = some (.int (m_bits x1 8)) ∧ μ = u9) args s) (F0 m 4 ls []) := by
    intro fu4
    induction fu4 with
    | zero => intro i r hi hq hm4; exact absurd hm4 (Nat.not_lt_zero _)
    | succ fu4 ih4 =>
      intro i r hi hq hm4 H locs hP hS ls hl
      refine lv_iload_n hx hb dM_bits_4 rfl (lv_at hl 2 rfl) ?_
      refine lv_bipush (v := 8) hx hb dM_bits_5 (by decide) ?_
      refine lv_icmp_ge (tgt := 24) hx hb dM_bits_7 (by decide) (fun c_7 => ?_) (fun c_7 => ?_)
      · have c_7i := c_7
        have c_7 : 8 ≤ i := (nI_le' (a := 8) (b := i) (by omega) (by omega)).mp c_7
        refine lv_iload_n hx hb dM_bits_24 rfl (lv_at hl 1 rfl) ?_
        exact kx_iret (σ' := μ) CX hP hS dM_bits_25 (by (have h8 : i = 8 := by omega); subst h8; exact ⟨by rw [hq], rfl⟩)
      · have c_7i := c_7
        have c_7 : ¬ (8 ≤ i) := fun hq9 => c_7 ((nI_le' (a := 8) (b := i) (by omega) (by omega)).mpr hq9)
        refine lv_iload_n hx hb dM_bits_10 rfl (lv_at hl 1 rfl) ?_
        refine lv_iload_n hx hb dM_bits_11 rfl (lv_at hl 0 rfl) ?_
        refine lv_iload_n hx hb dM_bits_12 rfl (lv_at hl 2 rfl) ?_
        refine lv_ishr hx hb dM_bits_13 ?_
        refine lv_iconst (v := 1) hx hb dM_bits_14 (by decide) ?_
        refine lv_iand hx hb dM_bits_15 ?_
        refine lv_iadd hx hb dM_bits_16 ?_
        refine lv_istore_n (lv' := [(1, .int (r + ((x1 >>> ((nI i) &&& 31)) &&& 1))), (0, .int x1), (2, .int (nI i))]) hx hb dM_bits_17 rfl hl (by decide) rfl (fun ls hl => ?_)
        refine lv_iinc (v := nI (i + 1)) (lv' := [(2, .int (nI (i + 1))), (1, .int (r + ((x1 >>> ((nI i) &&& 31)) &&& 1))), (0, .int x1)]) hx hb dM_bits_18 hl (k := 2) rfl (nI_i1 i) (by decide) rfl (fun ls hl => ?_)
        refine lv_goto (tgt := 4) hx hb dM_bits_21 (by decide) ?_
        exact ih4 (i + 1) (r + ((x1 >>> ((nI i) &&& 31)) &&& 1)) (by omega) (by rw [hq]; rfl) (by omega) _ _ hP hS ls (lv_sub hl [2, 1, 0] rfl)
  exact loop_4 ((8 - 0) + 1) 0 0 (by omega) rfl (Nat.lt_succ_self _) _ _ hP hS ls (lv_sub hl [2, 1, 0] rfl)
set_option maxRecDepth 100000 in
set_option maxHeartbeats 800000 in
theorem cM_need (l : Launch) (D : va_G) (cA : Nat → ClassId) {ad : Nat → Nat} (hJ : kw_J 24 ad) (μ : MS) (x1 x2 x3 : Int32) : kx_Met l yM_need (.code yM_need bM_need 4 (Option.some .int) :: kw_T) (kw_R 2) D (kx_tys cA) 24 ad (wM cA ad) μ [.ref (ad 0), .int x1, .int x2, .int x3] (fun r9 u9 => r9 = some (.int ((m_need μ x1 x2 x3).1)) ∧ (m_need μ x1 x2 x3).2 = u9) := by
  refine kx_of hJ (by decide +kernel) (Nat.le_of_ble_eq_true rfl) ?_
  intro p e s m args below meth c CX ls hl hP hS
  obtain ⟨hx, hb, hr, hml, hown, hts, hlk, hK, hJ1, hZ⟩ := id CX
  have hl : lv_has ls 4 [(0, .ref (ad 0)), (1, .int x1), (2, .int x2), (3, .int x3)] := hl
  refine lv_aload_n hx hb dM_need_0 rfl (lv_at hl 0 rfl) ?_
  refine lv_iload_n hx hb dM_need_1 rfl (lv_at hl 1 rfl) ?_
  refine kx_callV1 (σ1 := μ) (v := .int (bI (goneM μ x1 = true))) (n := 1) (As := [.int x1]) (rest := []) CX hP hS hl.1 (cM_gone l D cA hJ μ x1) wl_456 wl_458 wp_22 wl_5 wl_459 ⟨rfl, by decide +kernel, by decide +kernel, by decide +kernel⟩ (kw_R_ok (by omega) (by omega)) ⟨rfl, rfl⟩ (k := 0) (by omega) rfl rfl rfl rfl rfl (Nat.le_of_ble_eq_true rfl) dM_need_2 (fun H locs hP hS => ?_)
  refine lv_if_ne (tgt := 43) hx hb dM_need_5 (by decide) (fun c_5 => ?_) (fun c_5 => ?_)
  · have c_5 := bI_ne0.mp c_5
    refine lv_iconst (v := (-1)) hx hb dM_need_43 (by decide) ?_
    exact kx_iret (σ' := μ) CX hP hS dM_need_44 (by constructor <;> simp [bI, c_5, m_need, upd2_at])
  · have c_5 := bI_eq0.mp c_5
    obtain ⟨j, hj, rfl⟩ := goneM_of c_5
    have ej : pn (nI j) = j := pn_nI (by omega)
    refine lv_iload_n hx hb dM_need_8 rfl (lv_at hl 2 rfl) ?_
    refine lv_iconst (v := 0) hx hb dM_need_9 (by decide) ?_
    refine lv_bipush (v := 7) hx hb dM_need_10 (by decide) ?_
    refine kx_callS1 (σ1 := μ) (v := .int (bI (inR x2 0 7 = true))) (n := 3) (As := [.int x2, .int 0, .int 7]) (rest := []) CX hP hS hl.1 (cM_in l D cA hJ μ x2 0 7) wl_445 wl_446 wl_5 wl_447 ⟨by decide +kernel, by decide +kernel, by decide +kernel⟩ (kw_R_ok (by omega) (by omega)) ⟨rfl, rfl⟩ rfl rfl (Nat.le_of_ble_eq_true rfl) dM_need_12 (fun H locs hP hS => ?_)
    refine lv_if_eq (tgt := 43) hx hb dM_need_15 (by decide) (fun c_15 => ?_) (fun c_15 => ?_)
    · have c_15 := bI_eq0.mp c_15
      refine lv_iconst (v := (-1)) hx hb dM_need_43 (by decide) ?_
      exact kx_iret (σ' := μ) CX hP hS dM_need_44 (by constructor <;> simp [bI, c_5, ej, c_15, m_need, upd2_at])
    · have c_15 := bI_ne0.mp c_15
      obtain ⟨k, hk, rfl⟩ := inR07_of c_15
      have ek : pn (nI k) = k := pn_nI (by omega)
      refine lv_iload_n hx hb dM_need_18 rfl (lv_at hl 2 rfl) ?_
      refine lv_iload_n hx hb dM_need_19 rfl (lv_at hl 1 rfl) ?_
      refine lv_icmp_eq (tgt := 43) hx hb dM_need_20 (by decide) (fun c_20 => ?_) (fun c_20 => ?_)
      · have c_20i := c_20
        have c_20 : k = j := (nI_eq' (a := k) (b := j) (by omega) (by omega)).mp c_20
        refine lv_iconst (v := (-1)) hx hb dM_need_43 (by decide) ?_
        exact kx_iret (σ' := μ) CX hP hS dM_need_44 (by constructor <;> simp [bI, c_5, ej, c_15, ek, c_20, c_20i, m_need, upd2_at])
      · have c_20i := c_20
        have c_20 : ¬ (k = j) := fun hq9 => c_20 ((nI_eq' (a := k) (b := j) (by omega) (by omega)).mpr hq9)
        refine lv_aload_n hx hb dM_need_23 rfl (lv_at hl 0 rfl) ?_
        refine mM_get CX hP 1 (by omega) wl_352 rfl dM_need_24 ?_
        refine lv_iload_n hx hb dM_need_27 rfl (lv_at hl 1 rfl) ?_
        refine mA_ld CX hP 2 (by omega) (by omega) 8 rfl j (rfl) (by omega) dM_need_28 ?_
        refine lv_aload_n hx hb dM_need_29 rfl (lv_at hl 0 rfl) ?_
        refine mM_get CX hP 2 (by omega) wl_353 rfl dM_need_30 ?_
        refine lv_iload_n hx hb dM_need_33 rfl (lv_at hl 1 rfl) ?_
        refine mA_ld CX hP 3 (by omega) (by omega) 8 rfl j (rfl) (by omega) dM_need_34 ?_
        refine lv_ior hx hb dM_need_35 ?_
        refine lv_iload_n hx hb dM_need_36 rfl (lv_at hl 2 rfl) ?_
        refine lv_ishr hx hb dM_need_37 ?_
        refine lv_iconst (v := 1) hx hb dM_need_38 (by decide) ?_
        refine lv_iand hx hb dM_need_39 ?_
        refine lv_if_eq (tgt := 45) hx hb dM_need_40 (by decide) (fun c_40 => ?_) (fun c_40 => ?_)
        · skip
          refine lv_iload_n hx hb dM_need_45 rfl (lv_at hl 3 rfl) ?_
          refine lv_if_eq (tgt := 64) hx hb dM_need_46 (by decide) (fun c_46 => ?_) (fun c_46 => ?_)
          · skip
            refine lv_aload_n hx hb dM_need_64 rfl (lv_at hl 0 rfl) ?_
            refine mM_get CX hP 1 (by omega) wl_352 rfl dM_need_65 ?_
            refine lv_iload_n hx hb dM_need_68 rfl (lv_at hl 1 rfl) ?_
            refine lv_dup2_11 hx hb dM_need_69 rfl rfl ?_
            refine mA_ld CX hP 2 (by omega) (by omega) 8 rfl j (rfl) (by omega) dM_need_70 ?_
            refine lv_iconst (v := 1) hx hb dM_need_71 (by decide) ?_
            refine lv_iload_n hx hb dM_need_72 rfl (lv_at hl 2 rfl) ?_
            refine lv_ishl hx hb dM_need_73 ?_
            refine lv_ior hx hb dM_need_74 ?_
            refine mA_st CX hP hS 2 (by omega) (by omega) 8 rfl j (rfl) (by omega) dM_need_75 (fun H locs hP hS => ?_)
            refine lv_aload_n hx hb dM_need_76 rfl (lv_at hl 0 rfl) ?_
            refine mM_get CX hP 1 (by omega) wl_352 rfl dM_need_77 ?_
            refine lv_iload_n hx hb dM_need_80 rfl (lv_at hl 1 rfl) ?_
            refine mA_ld CX hP 2 (by omega) (by omega) 8 rfl j (rfl) (by omega) dM_need_81 ?_
            refine lv_aload_n hx hb dM_need_82 rfl (lv_at hl 0 rfl) ?_
            refine mM_get CX hP 2 (by omega) wl_353 rfl dM_need_83 ?_
            refine lv_iload_n hx hb dM_need_86 rfl (lv_at hl 1 rfl) ?_
            refine mA_ld CX hP 3 (by omega) (by omega) 8 rfl j (rfl) (by omega) dM_need_87 ?_
            refine kx_topi (v' := μ 3 j) rfl ?_
            refine lv_ior hx hb dM_need_88 ?_
            refine kx_callS1 (σ1 := upd2 μ 2 j ((μ 2 j) ||| (1 <<< ((nI k) &&& 31)))) (v := .int (m_bits (((upd2 μ 2 j ((μ 2 j) ||| (1 <<< ((nI k) &&& 31)))) 2 j) ||| (μ 3 j)) 8)) (n := 1) (As := [.int (((upd2 μ 2 j ((μ 2 j) ||| (1 <<< ((nI k) &&& 31)))) 2 j) ||| (μ 3 j))]) (rest := []) CX hP hS hl.1 (cM_bits l D cA hJ (upd2 μ 2 j ((μ 2 j) ||| (1 <<< ((nI k) &&& 31)))) (((upd2 μ 2 j ((μ 2 j) ||| (1 <<< ((nI k) &&& 31)))) 2 j) ||| (μ 3 j))) wl_460 wl_461 wl_5 wl_462 ⟨by decide +kernel, by decide +kernel, by decide +kernel⟩ (kw_R_ok (by omega) (by omega)) ⟨rfl, rfl⟩ rfl rfl (Nat.le_of_ble_eq_true rfl) dM_need_89 (fun H locs hP hS => ?_)
            exact kx_iret (σ' := upd2 μ 2 j ((μ 2 j) ||| (1 <<< ((nI k) &&& 31)))) CX hP hS dM_need_92 (by constructor <;> simp [bI, c_5, ej, c_15, ek, c_20, c_20i, c_40, c_46, m_need, upd2_at])
          · skip
            refine lv_aload_n hx hb dM_need_49 rfl (lv_at hl 0 rfl) ?_
            refine mM_get CX hP 2 (by omega) wl_353 rfl dM_need_50 ?_
            refine lv_iload_n hx hb dM_need_53 rfl (lv_at hl 1 rfl) ?_
            refine lv_dup2_11 hx hb dM_need_54 rfl rfl ?_
            refine mA_ld CX hP 3 (by omega) (by omega) 8 rfl j (rfl) (by omega) dM_need_55 ?_
            refine lv_iconst (v := 1) hx hb dM_need_56 (by decide) ?_
            refine lv_iload_n hx hb dM_need_57 rfl (lv_at hl 2 rfl) ?_
            refine lv_ishl hx hb dM_need_58 ?_
            refine lv_ior hx hb dM_need_59 ?_
            refine mA_st CX hP hS 3 (by omega) (by omega) 8 rfl j (rfl) (by omega) dM_need_60 (fun H locs hP hS => ?_)
            refine lv_goto (tgt := 76) hx hb dM_need_61 (by decide) ?_
            refine lv_aload_n hx hb dM_need_76 rfl (lv_at hl 0 rfl) ?_
            refine mM_get CX hP 1 (by omega) wl_352 rfl dM_need_77 ?_
            refine lv_iload_n hx hb dM_need_80 rfl (lv_at hl 1 rfl) ?_
            refine mA_ld CX hP 2 (by omega) (by omega) 8 rfl j (rfl) (by omega) dM_need_81 ?_
            refine kx_topi (v' := μ 2 j) rfl ?_
            refine lv_aload_n hx hb dM_need_82 rfl (lv_at hl 0 rfl) ?_
            refine mM_get CX hP 2 (by omega) wl_353 rfl dM_need_83 ?_
            refine lv_iload_n hx hb dM_need_86 rfl (lv_at hl 1 rfl) ?_
            refine mA_ld CX hP 3 (by omega) (by omega) 8 rfl j (rfl) (by omega) dM_need_87 ?_
            refine lv_ior hx hb dM_need_88 ?_
            refine kx_callS1 (σ1 := upd2 μ 3 j ((μ 3 j) ||| (1 <<< ((nI k) &&& 31)))) (v := .int (m_bits ((μ 2 j) ||| ((upd2 μ 3 j ((μ 3 j) ||| (1 <<< ((nI k) &&& 31)))) 3 j)) 8)) (n := 1) (As := [.int ((μ 2 j) ||| ((upd2 μ 3 j ((μ 3 j) ||| (1 <<< ((nI k) &&& 31)))) 3 j))]) (rest := []) CX hP hS hl.1 (cM_bits l D cA hJ (upd2 μ 3 j ((μ 3 j) ||| (1 <<< ((nI k) &&& 31)))) ((μ 2 j) ||| ((upd2 μ 3 j ((μ 3 j) ||| (1 <<< ((nI k) &&& 31)))) 3 j))) wl_460 wl_461 wl_5 wl_462 ⟨by decide +kernel, by decide +kernel, by decide +kernel⟩ (kw_R_ok (by omega) (by omega)) ⟨rfl, rfl⟩ rfl rfl (Nat.le_of_ble_eq_true rfl) dM_need_89 (fun H locs hP hS => ?_)
            exact kx_iret (σ' := upd2 μ 3 j ((μ 3 j) ||| (1 <<< ((nI k) &&& 31)))) CX hP hS dM_need_92 (by constructor <;> simp [bI, c_5, ej, c_15, ek, c_20, c_20i, c_40, c_46, m_need, upd2_at])
        · skip
          refine lv_iconst (v := (-1)) hx hb dM_need_43 (by decide) ?_
          exact kx_iret (σ' := μ) CX hP hS dM_need_44 (by constructor <;> simp [bI, c_5, ej, c_15, ek, c_20, c_20i, c_40, m_need, upd2_at])
set_option maxRecDepth 100000 in
set_option maxHeartbeats 800000 in
theorem cM_serve (l : Launch) (D : va_G) (cA : Nat → ClassId) {ad : Nat → Nat} (hJ : kw_J 24 ad) (μ : MS) (x1 x2 x3 : Int32) : kx_Met l yM_serve (.code yM_serve bM_serve 4 (Option.some .int) :: kw_T) (kw_R 2) D (kx_tys cA) 24 ad (wM cA ad) μ [.ref (ad 0), .int x1, .int x2, .int x3] (fun r9 u9 => r9 = some (.int ((m_serve μ x1 x2 x3).1)) ∧ (m_serve μ x1 x2 x3).2 = u9) := by
  refine kx_of hJ (by decide +kernel) (Nat.le_of_ble_eq_true rfl) ?_
  intro p e s m args below meth c CX ls hl hP hS
  obtain ⟨hx, hb, hr, hml, hown, hts, hlk, hK, hJ1, hZ⟩ := id CX
  have hl : lv_has ls 4 [(0, .ref (ad 0)), (1, .int x1), (2, .int x2), (3, .int x3)] := hl
  refine lv_aload_n hx hb dM_serve_0 rfl (lv_at hl 0 rfl) ?_
  refine lv_iload_n hx hb dM_serve_1 rfl (lv_at hl 1 rfl) ?_
  refine kx_callV1 (σ1 := μ) (v := .int (bI (goneM μ x1 = true))) (n := 1) (As := [.int x1]) (rest := []) CX hP hS hl.1 (cM_gone l D cA hJ μ x1) wl_456 wl_458 wp_22 wl_5 wl_459 ⟨rfl, by decide +kernel, by decide +kernel, by decide +kernel⟩ (kw_R_ok (by omega) (by omega)) ⟨rfl, rfl⟩ (k := 0) (by omega) rfl rfl rfl rfl rfl (Nat.le_of_ble_eq_true rfl) dM_serve_2 (fun H locs hP hS => ?_)
  refine lv_if_ne (tgt := 32) hx hb dM_serve_5 (by decide) (fun c_5 => ?_) (fun c_5 => ?_)
  · have c_5 := bI_ne0.mp c_5
    refine lv_iconst (v := (-1)) hx hb dM_serve_32 (by decide) ?_
    exact kx_iret (σ' := μ) CX hP hS dM_serve_33 (by constructor <;> simp [bI, c_5, m_serve, show inR 2 0 2 = true from by decide])
  · have c_5 := bI_eq0.mp c_5
    obtain ⟨j, hj, rfl⟩ := goneM_of c_5
    have ej : pn (nI j) = j := pn_nI (by omega)
    refine lv_iload_n hx hb dM_serve_8 rfl (lv_at hl 2 rfl) ?_
    refine lv_iconst (v := 0) hx hb dM_serve_9 (by decide) ?_
    refine lv_iconst (v := 2) hx hb dM_serve_10 (by decide) ?_
    refine kx_callS1 (σ1 := μ) (v := .int (bI (inR x2 0 2 = true))) (n := 3) (As := [.int x2, .int 0, .int 2]) (rest := []) CX hP hS hl.1 (cM_in l D cA hJ μ x2 0 2) wl_445 wl_446 wl_5 wl_447 ⟨by decide +kernel, by decide +kernel, by decide +kernel⟩ (kw_R_ok (by omega) (by omega)) ⟨rfl, rfl⟩ rfl rfl (Nat.le_of_ble_eq_true rfl) dM_serve_11 (fun H locs hP hS => ?_)
    refine lv_if_eq (tgt := 32) hx hb dM_serve_14 (by decide) (fun c_14 => ?_) (fun c_14 => ?_)
    · have c_14 := bI_eq0.mp c_14
      refine lv_iconst (v := (-1)) hx hb dM_serve_32 (by decide) ?_
      exact kx_iret (σ' := μ) CX hP hS dM_serve_33 (by constructor <;> simp [bI, c_5, ej, c_14, m_serve, show inR 2 0 2 = true from by decide])
    · have c_14 := bI_ne0.mp c_14
      refine lv_iload_n hx hb dM_serve_17 rfl (lv_at hl 2 rfl) ?_
      refine lv_iconst (v := 2) hx hb dM_serve_18 (by decide) ?_
      refine lv_icmp_ne (tgt := 34) hx hb dM_serve_19 (by decide) (fun c_19 => ?_) (fun c_19 => ?_)
      · skip
        refine lv_aload_n hx hb dM_serve_34 rfl (lv_at hl 0 rfl) ?_
        refine mM_get CX hP 3 (by omega) wl_354 rfl dM_serve_35 ?_
        refine lv_iload_n hx hb dM_serve_38 rfl (lv_at hl 1 rfl) ?_
        refine lv_iload_n hx hb dM_serve_39 rfl (lv_at hl 2 rfl) ?_
        refine mA_st CX hP hS 4 (by omega) (by omega) 8 rfl j (rfl) (by omega) dM_serve_40 (fun H locs hP hS => ?_)
        refine lv_aload_n hx hb dM_serve_41 rfl (lv_at hl 0 rfl) ?_
        refine mM_get CX hP 4 (by omega) wl_355 rfl dM_serve_42 ?_
        refine lv_iload_n hx hb dM_serve_45 rfl (lv_at hl 1 rfl) ?_
        refine lv_iload_n hx hb dM_serve_46 rfl (lv_at hl 3 rfl) ?_
        refine mA_st CX hP hS 5 (by omega) (by omega) 8 rfl j (rfl) (by omega) dM_serve_47 (fun H locs hP hS => ?_)
        refine lv_iconst (v := 0) hx hb dM_serve_48 (by decide) ?_
        exact kx_iret (σ' := upd2 (upd2 μ 4 j x2) 5 j x3) CX hP hS dM_serve_49 (by constructor <;> simp [bI, c_5, ej, c_14, c_19, m_serve, show inR 2 0 2 = true from by decide])
      · skip
        refine lv_iload_n hx hb dM_serve_22 rfl (lv_at hl 3 rfl) ?_
        refine lv_iconst (v := 0) hx hb dM_serve_23 (by decide) ?_
        refine lv_bipush (v := 9) hx hb dM_serve_24 (by decide) ?_
        refine kx_callS1 (σ1 := μ) (v := .int (bI (inR x3 0 9 = true))) (n := 3) (As := [.int x3, .int 0, .int 9]) (rest := []) CX hP hS hl.1 (cM_in l D cA hJ μ x3 0 9) wl_445 wl_446 wl_5 wl_447 ⟨by decide +kernel, by decide +kernel, by decide +kernel⟩ (kw_R_ok (by omega) (by omega)) ⟨rfl, rfl⟩ rfl rfl (Nat.le_of_ble_eq_true rfl) dM_serve_26 (fun H locs hP hS => ?_)
        refine lv_if_ne (tgt := 34) hx hb dM_serve_29 (by decide) (fun c_29 => ?_) (fun c_29 => ?_)
        · have c_29 := bI_ne0.mp c_29
          refine lv_aload_n hx hb dM_serve_34 rfl (lv_at hl 0 rfl) ?_
          refine mM_get CX hP 3 (by omega) wl_354 rfl dM_serve_35 ?_
          refine lv_iload_n hx hb dM_serve_38 rfl (lv_at hl 1 rfl) ?_
          refine lv_iload_n hx hb dM_serve_39 rfl (lv_at hl 2 rfl) ?_
          refine mA_st CX hP hS 4 (by omega) (by omega) 8 rfl j (rfl) (by omega) dM_serve_40 (fun H locs hP hS => ?_)
          refine lv_aload_n hx hb dM_serve_41 rfl (lv_at hl 0 rfl) ?_
          refine mM_get CX hP 4 (by omega) wl_355 rfl dM_serve_42 ?_
          refine lv_iload_n hx hb dM_serve_45 rfl (lv_at hl 1 rfl) ?_
          refine lv_iload_n hx hb dM_serve_46 rfl (lv_at hl 3 rfl) ?_
          refine mA_st CX hP hS 5 (by omega) (by omega) 8 rfl j (rfl) (by omega) dM_serve_47 (fun H locs hP hS => ?_)
          refine lv_iconst (v := 0) hx hb dM_serve_48 (by decide) ?_
          exact kx_iret (σ' := upd2 (upd2 μ 4 j x2) 5 j x3) CX hP hS dM_serve_49 (by constructor <;> simp [bI, c_5, ej, c_14, c_19, c_29, m_serve, show inR 2 0 2 = true from by decide])
        · have c_29 := bI_eq0.mp c_29
          refine lv_iconst (v := (-1)) hx hb dM_serve_32 (by decide) ?_
          exact kx_iret (σ' := μ) CX hP hS dM_serve_33 (by constructor <;> simp [bI, c_5, ej, c_14, c_19, c_29, m_serve, show inR 2 0 2 = true from by decide])
set_option maxRecDepth 100000 in
set_option maxHeartbeats 800000 in
theorem cM_extend (l : Launch) (D : va_G) (cA : Nat → ClassId) {ad : Nat → Nat} (hJ : kw_J 24 ad) (μ : MS) (x1 x2 x3 x4 x5 : Int32) (n : Nat) (hn : n ≤ 16) (hm9 : μ 31 0 = nI n) : kx_Met l yM_extend (.code yM_extend bM_extend 7 (Option.some .int) :: kw_T) (kw_R 2) D (kx_tys cA) 24 ad (wM cA ad) μ [.ref (ad 0), .int x1, .int x2, .int x3, .int x4, .double (d8 x5)] (fun r9 u9 => r9 = some (.int ((m_extend μ x1 x2 x3 x4 x5).1)) ∧ (m_extend μ x1 x2 x3 x4 x5).2 = u9) := by
  have en : pn (nI n) = n := pn_nI (by omega)
  refine kx_of hJ (by decide +kernel) (Nat.le_of_ble_eq_true rfl) ?_
  intro p e s m args below meth c CX ls hl hP hS
  obtain ⟨hx, hb, hr, hml, hown, hts, hlk, hK, hJ1, hZ⟩ := id CX
  have hl : lv_has ls 7 [(0, .ref (ad 0)), (1, .int x1), (2, .int x2), (3, .int x3), (4, .int x4), (5, .double (d8 x5))] := hl
  refine lv_aload_n hx hb dM_extend_0 rfl (lv_at hl 0 rfl) ?_
  refine lv_iload_n hx hb dM_extend_1 rfl (lv_at hl 1 rfl) ?_
  refine kx_callV1 (σ1 := μ) (v := .int (bI (goneM μ x1 = true))) (n := 1) (As := [.int x1]) (rest := []) CX hP hS hl.1 (cM_gone l D cA hJ μ x1) wl_456 wl_458 wp_22 wl_5 wl_459 ⟨rfl, by decide +kernel, by decide +kernel, by decide +kernel⟩ (kw_R_ok (by omega) (by omega)) ⟨rfl, rfl⟩ (k := 0) (by omega) rfl rfl rfl rfl rfl (Nat.le_of_ble_eq_true rfl) dM_extend_2 (fun H locs hP hS => ?_)
  refine lv_if_ne (tgt := 27) hx hb dM_extend_5 (by decide) (fun c_5 => ?_) (fun c_5 => ?_)
  · have c_5 := bI_ne0.mp c_5
    refine lv_iconst (v := (-1)) hx hb dM_extend_27 (by decide) ?_
    exact kx_iret (σ' := μ) CX hP hS dM_extend_28 (by constructor <;> simp [bI, c_5, m_extend, m_ext6, hm9, en, pk_sub, nI_add, show pn (nI 16) = 16 from by decide])
  · have c_5 := bI_eq0.mp c_5
    obtain ⟨j, hj, rfl⟩ := goneM_of c_5
    have ej : pn (nI j) = j := pn_nI (by omega)
    refine lv_iload_n hx hb dM_extend_8 rfl (lv_at hl 2 rfl) ?_
    refine lv_iconst (v := 0) hx hb dM_extend_9 (by decide) ?_
    refine lv_iconst (v := 2) hx hb dM_extend_10 (by decide) ?_
    refine kx_callS1 (σ1 := μ) (v := .int (bI (inR x2 0 2 = true))) (n := 3) (As := [.int x2, .int 0, .int 2]) (rest := []) CX hP hS hl.1 (cM_in l D cA hJ μ x2 0 2) wl_445 wl_446 wl_5 wl_447 ⟨by decide +kernel, by decide +kernel, by decide +kernel⟩ (kw_R_ok (by omega) (by omega)) ⟨rfl, rfl⟩ rfl rfl (Nat.le_of_ble_eq_true rfl) dM_extend_11 (fun H locs hP hS => ?_)
    refine lv_if_eq (tgt := 27) hx hb dM_extend_14 (by decide) (fun c_14 => ?_) (fun c_14 => ?_)
    · have c_14 := bI_eq0.mp c_14
      refine lv_iconst (v := (-1)) hx hb dM_extend_27 (by decide) ?_
      exact kx_iret (σ' := μ) CX hP hS dM_extend_28 (by constructor <;> simp [bI, c_5, ej, c_14, m_extend, m_ext6, hm9, en, pk_sub, nI_add, show pn (nI 16) = 16 from by decide])
    · have c_14 := bI_ne0.mp c_14
      refine lv_iload_n hx hb dM_extend_17 rfl (lv_at hl 3 rfl) ?_
      refine lv_iconst (v := 0) hx hb dM_extend_18 (by decide) ?_
      refine lv_bipush (v := 8) hx hb dM_extend_19 (by decide) ?_
      refine kx_callS1 (σ1 := μ) (v := .int (bI (inR x3 0 8 = true))) (n := 3) (As := [.int x3, .int 0, .int 8]) (rest := []) CX hP hS hl.1 (cM_in l D cA hJ μ x3 0 8) wl_445 wl_446 wl_5 wl_447 ⟨by decide +kernel, by decide +kernel, by decide +kernel⟩ (kw_R_ok (by omega) (by omega)) ⟨rfl, rfl⟩ rfl rfl (Nat.le_of_ble_eq_true rfl) dM_extend_21 (fun H locs hP hS => ?_)
      refine lv_if_ne (tgt := 29) hx hb dM_extend_24 (by decide) (fun c_24 => ?_) (fun c_24 => ?_)
      · have c_24 := bI_ne0.mp c_24
        refine lv_aload_n hx hb dM_extend_29 rfl (lv_at hl 0 rfl) ?_
        refine mM_get CX hP 7 (by omega) wl_358 rfl dM_extend_30 ?_
        refine kx_topi (v' := nI n) (hm9) ?_
        refine lv_bipush (v := 16) hx hb dM_extend_33 (by decide) ?_
        refine lv_icmp_ne (tgt := 41) hx hb dM_extend_35 (by decide) (fun c_35 => ?_) (fun c_35 => ?_)
        · have c_35i := c_35
          have c_35 : ¬ (n = 16) := fun hq9 => c_35 ((nI_eq' (a := n) (b := 16) (by omega) (by omega)).mpr hq9)
          refine lv_aload_n hx hb dM_extend_41 rfl (lv_at hl 0 rfl) ?_
          refine mM_get CX hP 8 (by omega) wl_359 rfl dM_extend_42 ?_
          refine lv_aload_n hx hb dM_extend_45 rfl (lv_at hl 0 rfl) ?_
          refine mM_get CX hP 7 (by omega) wl_358 rfl dM_extend_46 ?_
          refine kx_topi (v' := nI n) (hm9) ?_
          refine lv_iload_n hx hb dM_extend_49 rfl (lv_at hl 1 rfl) ?_
          refine mA_st CX hP hS 7 (by omega) (by omega) 16 rfl n (rfl) (by omega) dM_extend_50 (fun H locs hP hS => ?_)
          refine lv_aload_n hx hb dM_extend_51 rfl (lv_at hl 0 rfl) ?_
          refine mM_get CX hP 9 (by omega) wl_360 rfl dM_extend_52 ?_
          refine lv_aload_n hx hb dM_extend_55 rfl (lv_at hl 0 rfl) ?_
          refine mM_get CX hP 7 (by omega) wl_358 rfl dM_extend_56 ?_
          refine kx_topi (v' := μ 31 0) rfl ?_
          refine kx_topi (v' := nI n) (hm9) ?_
          refine lv_iload_n hx hb dM_extend_59 rfl (lv_at hl 2 rfl) ?_
          refine mA_st CX hP hS 8 (by omega) (by omega) 16 rfl n (rfl) (by omega) dM_extend_60 (fun H locs hP hS => ?_)
          refine lv_aload_n hx hb dM_extend_61 rfl (lv_at hl 0 rfl) ?_
          refine mM_get CX hP 10 (by omega) wl_361 rfl dM_extend_62 ?_
          refine lv_aload_n hx hb dM_extend_65 rfl (lv_at hl 0 rfl) ?_
          refine mM_get CX hP 7 (by omega) wl_358 rfl dM_extend_66 ?_
          refine kx_topi (v' := μ 31 0) rfl ?_
          refine kx_topi (v' := nI n) (hm9) ?_
          refine lv_iload_n hx hb dM_extend_69 rfl (lv_at hl 3 rfl) ?_
          refine mA_st CX hP hS 9 (by omega) (by omega) 16 rfl n (rfl) (by omega) dM_extend_70 (fun H locs hP hS => ?_)
          refine lv_aload_n hx hb dM_extend_71 rfl (lv_at hl 0 rfl) ?_
          refine mM_get CX hP 11 (by omega) wl_362 rfl dM_extend_72 ?_
          refine lv_aload_n hx hb dM_extend_75 rfl (lv_at hl 0 rfl) ?_
          refine mM_get CX hP 7 (by omega) wl_358 rfl dM_extend_76 ?_
          refine kx_topi (v' := μ 31 0) rfl ?_
          refine kx_topi (v' := nI n) (hm9) ?_
          refine lv_iload hx hb dM_extend_79 (lv_at hl 4 rfl) ?_
          refine mA_st CX hP hS 10 (by omega) (by omega) 16 rfl n (rfl) (by omega) dM_extend_81 (fun H locs hP hS => ?_)
          refine lv_aload_n hx hb dM_extend_82 rfl (lv_at hl 0 rfl) ?_
          refine mM_get CX hP 12 (by omega) wl_363 rfl dM_extend_83 ?_
          refine lv_aload_n hx hb dM_extend_86 rfl (lv_at hl 0 rfl) ?_
          refine mM_get CX hP 7 (by omega) wl_358 rfl dM_extend_87 ?_
          refine kx_topi (v' := μ 31 0) rfl ?_
          refine kx_topi (v' := nI n) (hm9) ?_
          refine lv_dload hx hb dM_extend_90 (lv_at hl 5 rfl) ?_
          refine lv_ldc2d (v := 4620693217682128896) hx hb hown (hts _ wl_471) dM_extend_92 ?_
          refine lv_dmul hx hb dM_extend_95 (e8_mul8_vf _) ?_
          refine lv_d2l hx hb dM_extend_96 ?_
          refine mA_lst (v := x5) CX hP hS (e8_back x5) n (rfl) (by omega) dM_extend_97 (fun H locs hP hS => ?_)
          refine lv_aload_n hx hb dM_extend_98 rfl (lv_at hl 0 rfl) ?_
          refine lv_dup hx hb dM_extend_99 rfl ?_
          refine mM_get CX hP 7 (by omega) wl_358 rfl dM_extend_100 ?_
          refine kx_topi (v' := μ 31 0) rfl ?_
          refine kx_topi (v' := nI n) (hm9) ?_
          refine lv_iconst (v := 1) hx hb dM_extend_103 (by decide) ?_
          refine lv_iadd hx hb dM_extend_104 ?_
          refine kx_topi (v' := nI (n + 1)) (nI_add n 1) ?_
          refine mM_put CX hP hS 7 (by omega) 31 rfl wl_358 dM_extend_105 (fun H locs hP hS => ?_)
          refine lv_aload_n hx hb dM_extend_108 rfl (lv_at hl 0 rfl) ?_
          refine mM_get CX hP 7 (by omega) wl_358 rfl dM_extend_109 ?_
          refine lv_iconst (v := 1) hx hb dM_extend_112 (by decide) ?_
          refine lv_isub hx hb dM_extend_113 ?_
          exact kx_iret (σ' := upd2 (upd2 (upd2 (upd2 (upd2 (upd2 μ 7 n (nI j)) 8 n x2) 9 n x3) 10 n x4) 11 n x5) 31 0 (nI (n + 1))) CX hP hS dM_extend_114 (by constructor <;> simp [upd2_at, show nI (n + 1) - 1 = nI n from pk_sub (a := n + 1) (b := 1) (by omega), m_extend, m_ext6, c_5, c_14, c_24, c_35, ej, hm9, en])
        · have c_35i := c_35
          have c_35 : n = 16 := (nI_eq' (a := n) (b := 16) (by omega) (by omega)).mp c_35
          refine lv_bipush (v := (-2)) hx hb dM_extend_38 (by decide) ?_
          exact kx_iret (σ' := μ) CX hP hS dM_extend_40 (by constructor <;> simp [bI, c_5, ej, c_14, c_24, c_35, c_35i, m_extend, m_ext6, hm9, en, pk_sub, nI_add, show pn (nI 16) = 16 from by decide])
      · have c_24 := bI_eq0.mp c_24
        refine lv_iconst (v := (-1)) hx hb dM_extend_27 (by decide) ?_
        exact kx_iret (σ' := μ) CX hP hS dM_extend_28 (by constructor <;> simp [bI, c_5, ej, c_14, c_24, m_extend, m_ext6, hm9, en, pk_sub, nI_add, show pn (nI 16) = 16 from by decide])
set_option maxRecDepth 100000 in
set_option maxHeartbeats 800000 in
theorem cM_beginStart (l : Launch) (D : va_G) (cA : Nat → ClassId) {ad : Nat → Nat} (hJ : kw_J 24 ad) (μ : MS) (i : Nat) (hi : i < 8) : kx_Met l yM_beginStart (.code yM_beginStart bM_beginStart 2 (Option.some .int) :: kw_T) (kw_R 0) D (kx_tys cA) 24 ad (wM cA ad) μ [.ref (ad 0), .int (nI i)] (fun r9 u9 => r9 = some (.int (m_bs μ i)) ∧ μ = u9) := by
  refine kx_of hJ (by decide +kernel) (Nat.le_of_ble_eq_true rfl) ?_
  intro p e s m args below meth c CX ls hl hP hS
  obtain ⟨hx, hb, hr, hml, hown, hts, hlk, hK, hJ1, hZ⟩ := id CX
  have hl : lv_has ls 2 [(0, .ref (ad 0)), (1, .int (nI i))] := hl
  refine lv_aload_n hx hb dM_beginStart_0 rfl (lv_at hl 0 rfl) ?_
  refine mM_get CX hP 0 (by omega) wl_351 rfl dM_beginStart_1 ?_
  refine lv_iload_n hx hb dM_beginStart_4 rfl (lv_at hl 1 rfl) ?_
  refine mA_ld CX hP 1 (by omega) (by omega) 8 rfl i (rfl) (by omega) dM_beginStart_5 ?_
  refine lv_if_ne (tgt := 12) hx hb dM_beginStart_6 (by decide) (fun c_6 => ?_) (fun c_6 => ?_)
  · skip
    refine lv_aload_n hx hb dM_beginStart_12 rfl (lv_at hl 0 rfl) ?_
    refine mM_get CX hP 0 (by omega) wl_351 rfl dM_beginStart_13 ?_
    refine lv_iload_n hx hb dM_beginStart_16 rfl (lv_at hl 1 rfl) ?_
    refine mA_ld CX hP 1 (by omega) (by omega) 8 rfl i (rfl) (by omega) dM_beginStart_17 ?_
    refine lv_iconst (v := 2) hx hb dM_beginStart_18 (by decide) ?_
    refine lv_icmp_ne (tgt := 24) hx hb dM_beginStart_19 (by decide) (fun c_19 => ?_) (fun c_19 => ?_)
    · skip
      refine lv_aload_n hx hb dM_beginStart_24 rfl (lv_at hl 0 rfl) ?_
      refine mM_get CX hP 22 (by omega) wl_373 rfl dM_beginStart_25 ?_
      refine lv_iload_n hx hb dM_beginStart_28 rfl (lv_at hl 1 rfl) ?_
      refine mA_zld CX hP 19 (by omega) 8 rfl i (rfl) (by omega) dM_beginStart_29 ?_
      refine lv_if_eq (tgt := 38) hx hb dM_beginStart_30 (by decide) (fun c_30 => ?_) (fun c_30 => ?_)
      · skip
        refine lv_iconst (v := 1) hx hb dM_beginStart_38 (by decide) ?_
        exact kx_iret (σ' := μ) CX hP hS dM_beginStart_39 (by constructor <;> simp [bI, c_6, c_19, c_30, m_bs])
      · skip
        refine lv_bipush (v := (-4)) hx hb dM_beginStart_33 (by decide) ?_
        refine lv_goto (tgt := 39) hx hb dM_beginStart_35 (by decide) ?_
        exact kx_iret (σ' := μ) CX hP hS dM_beginStart_39 (by constructor <;> simp [bI, c_6, c_19, c_30, m_bs])
    · skip
      refine lv_iconst (v := 0) hx hb dM_beginStart_22 (by decide) ?_
      exact kx_iret (σ' := μ) CX hP hS dM_beginStart_23 (by constructor <;> simp [bI, c_6, c_19, m_bs])
  · skip
    refine lv_bipush (v := (-3)) hx hb dM_beginStart_9 (by decide) ?_
    exact kx_iret (σ' := μ) CX hP hS dM_beginStart_11 (by constructor <;> simp [bI, c_6, m_bs])
set_option maxRecDepth 100000 in
set_option maxHeartbeats 800000 in
theorem cM_active (l : Launch) (D : va_G) (cA : Nat → ClassId) {ad : Nat → Nat} (hJ : kw_J 24 ad) (μ : MS) : kx_Met l yM_active (.code yM_active bM_active 3 (Option.some .int) :: kw_T) (kw_R 0) D (kx_tys cA) 24 ad (wM cA ad) μ [.ref (ad 0)] (fun r9 u9 => r9 = some (.int (m_cnt μ 8)) ∧ μ = u9) := by
  refine kx_of hJ (by decide +kernel) (Nat.le_of_ble_eq_true rfl) ?_
  intro p e s m args below meth c CX ls hl hP hS
  obtain ⟨hx, hb, hr, hml, hown, hts, hlk, hK, hJ1, hZ⟩ := id CX
  have hl : lv_has ls 3 [(0, .ref (ad 0))] := hl
  refine lv_iconst (v := 0) hx hb dM_active_0 (by decide) ?_
  refine lv_istore_n (lv' := [(1, .int 0), (0, .ref (ad 0))]) hx hb dM_active_1 rfl hl (by decide) rfl (fun ls hl => ?_)
  refine lv_iconst (v := 0) hx hb dM_active_2 (by decide) ?_
  refine lv_istore_n (lv' := [(2, .int 0), (1, .int 0), (0, .ref (ad 0))]) hx hb dM_active_3 rfl hl (by decide) rfl (fun ls hl => ?_)
  have loop_4 : ∀ (fu : Nat) (i : Nat) (r : Int32), (i ≤ 8) → (r = m_cnt μ i) → 8 - i < fu → ∀ (H : Heap) (locs : List Loc), va_P D classes (kw_W 24 ad (wM cA ad μ)) H → va_S (kw_A 24 ad s.heap.size) s.heap H locs → ∀ (ls : Array Slot), lv_has ls 3 [(0, .ref (ad 0)), (1, .int r), (2, .int (nI i))] → W p l e (kw_R 0) s m args below meth c H locs 0 0 (kx_Q below D 24 ad (wM cA ad) (fun r9 u9 => r9 = some (.int (m_cnt μ 8)) ∧ μ = u9) args s) (F0 m 4 ls []) := by
    intro fu4
    induction fu4 with
    | zero => intro i r hi hq hm4; exact absurd hm4 (Nat.not_lt_zero _)
    | succ fu4 ih4 =>
      intro i r hi hq hm4 H locs hP hS ls hl
      refine lv_iload_n hx hb dM_active_4 rfl (lv_at hl 2 rfl) ?_
      refine lv_bipush (v := 8) hx hb dM_active_5 (by decide) ?_
      refine lv_icmp_ge (tgt := 29) hx hb dM_active_7 (by decide) (fun c_7 => ?_) (fun c_7 => ?_)
      · have c_7i := c_7
        have c_7 : 8 ≤ i := (nI_le' (a := 8) (b := i) (by omega) (by omega)).mp c_7
        refine lv_iload_n hx hb dM_active_29 rfl (lv_at hl 1 rfl) ?_
        exact kx_iret (σ' := μ) CX hP hS dM_active_30 (by (have h8 : i = 8 := by omega); subst h8; exact ⟨by rw [hq], rfl⟩)
      · have c_7i := c_7
        have c_7 : ¬ (8 ≤ i) := fun hq9 => c_7 ((nI_le' (a := 8) (b := i) (by omega) (by omega)).mpr hq9)
        refine lv_aload_n hx hb dM_active_10 rfl (lv_at hl 0 rfl) ?_
        refine mM_get CX hP 0 (by omega) wl_351 rfl dM_active_11 ?_
        refine lv_iload_n hx hb dM_active_14 rfl (lv_at hl 2 rfl) ?_
        refine mA_ld CX hP 1 (by omega) (by omega) 8 rfl i (rfl) (by omega) dM_active_15 ?_
        refine lv_iconst (v := 2) hx hb dM_active_16 (by decide) ?_
        refine lv_icmp_ne (tgt := 23) hx hb dM_active_17 (by decide) (fun c_17 => ?_) (fun c_17 => ?_)
        · skip
          refine lv_iinc (v := nI (i + 1)) (lv' := [(2, .int (nI (i + 1))), (0, .ref (ad 0)), (1, .int r)]) hx hb dM_active_23 hl (k := 2) rfl (nI_i1 i) (by decide) rfl (fun ls hl => ?_)
          refine lv_goto (tgt := 4) hx hb dM_active_26 (by decide) ?_
          exact ih4 (i + 1) r (by omega) (by simp [m_cnt, hq, c_17]) (by omega) _ _ hP hS ls (lv_sub hl [1, 2, 0] rfl)
        · skip
          refine lv_iinc (v := r + 1) (lv' := [(1, .int (r + 1)), (0, .ref (ad 0)), (2, .int (nI i))]) hx hb dM_active_20 hl (k := 1) rfl (rfl) (by decide) rfl (fun ls hl => ?_)
          refine lv_iinc (v := nI (i + 1)) (lv' := [(2, .int (nI (i + 1))), (1, .int (r + 1)), (0, .ref (ad 0))]) hx hb dM_active_23 hl (k := 2) rfl (nI_i1 i) (by decide) rfl (fun ls hl => ?_)
          refine lv_goto (tgt := 4) hx hb dM_active_26 (by decide) ?_
          exact ih4 (i + 1) (r + 1) (by omega) (by simp [m_cnt, hq, c_17]) (by omega) _ _ hP hS ls (lv_sub hl [2, 1, 0] rfl)
  exact loop_4 ((8 - 0) + 1) 0 0 (by omega) rfl (Nat.lt_succ_self _) _ _ hP hS ls (lv_sub hl [2, 1, 0] rfl)
set_option maxRecDepth 100000 in
set_option maxHeartbeats 800000 in
theorem cM_live (l : Launch) (D : va_G) (cA : Nat → ClassId) {ad : Nat → Nat} (hJ : kw_J 24 ad) (μ : MS) (i : Nat) (hi : i < 16) (hpl : plM μ) : kx_Met l yM_live (.code yM_live bM_live 2 (Option.some .boolean) :: kw_T) (kw_R 0) D (kx_tys cA) 24 ad (wM cA ad) μ [.ref (ad 0), .int (nI i)] (fun r9 u9 => r9 = some (.int (bI (liveM μ i = true))) ∧ μ = u9) := by
  refine kx_of hJ (by decide +kernel) (Nat.le_of_ble_eq_true rfl) ?_
  intro p e s m args below meth c CX ls hl hP hS
  obtain ⟨hx, hb, hr, hml, hown, hts, hlk, hK, hJ1, hZ⟩ := id CX
  have hl : lv_has ls 2 [(0, .ref (ad 0)), (1, .int (nI i))] := hl
  refine lv_aload_n hx hb dM_live_0 rfl (lv_at hl 0 rfl) ?_
  refine mM_get CX hP 8 (by omega) wl_359 rfl dM_live_1 ?_
  refine lv_iload_n hx hb dM_live_4 rfl (lv_at hl 1 rfl) ?_
  refine mA_ld CX hP 7 (by omega) (by omega) 16 rfl i (rfl) (by omega) dM_live_5 ?_
  refine lv_if_lt (tgt := 37) hx hb dM_live_6 (by decide) (fun c_6 => ?_) (fun c_6 => ?_)
  · skip
    refine lv_iconst (v := 0) hx hb dM_live_37 (by decide) ?_
    exact kx_zret (σ' := μ) CX (by decide) hP hS dM_live_38 (by constructor <;> simp [bI, c_6, liveM])
  · skip
    rcases hpl i hi with hneg | ⟨j, hj, ePl⟩
    · exact absurd hneg c_6
    have ej : pn (nI j) = j := pn_nI (by omega)
    have e0 : (0 : Int32) ≤ nI j := nI_0le (by omega)
    refine lv_aload_n hx hb dM_live_9 rfl (lv_at hl 0 rfl) ?_
    refine mM_get CX hP 0 (by omega) wl_351 rfl dM_live_10 ?_
    refine lv_aload_n hx hb dM_live_13 rfl (lv_at hl 0 rfl) ?_
    refine mM_get CX hP 8 (by omega) wl_359 rfl dM_live_14 ?_
    refine lv_iload_n hx hb dM_live_17 rfl (lv_at hl 1 rfl) ?_
    refine mA_ld CX hP 7 (by omega) (by omega) 16 rfl i (rfl) (by omega) dM_live_18 ?_
    refine kx_topi (v' := nI j) (ePl) ?_
    refine mA_ld CX hP 1 (by omega) (by omega) 8 rfl j (rfl) (by omega) dM_live_19 ?_
    refine lv_iconst (v := 2) hx hb dM_live_20 (by decide) ?_
    refine lv_icmp_ne (tgt := 37) hx hb dM_live_21 (by decide) (fun c_21 => ?_) (fun c_21 => ?_)
    · skip
      refine lv_iconst (v := 0) hx hb dM_live_37 (by decide) ?_
      exact kx_zret (σ' := μ) CX (by decide) hP hS dM_live_38 (by constructor <;> simp [bI, c_6, ePl, ej, e0, c_21, liveM])
    · skip
      refine lv_aload_n hx hb dM_live_24 rfl (lv_at hl 0 rfl) ?_
      refine mM_get CX hP 15 (by omega) wl_366 rfl dM_live_25 ?_
      refine lv_iload_n hx hb dM_live_28 rfl (lv_at hl 1 rfl) ?_
      refine mA_zld CX hP 14 (by omega) 16 rfl i (rfl) (by omega) dM_live_29 ?_
      refine lv_if_ne (tgt := 37) hx hb dM_live_30 (by decide) (fun c_30 => ?_) (fun c_30 => ?_)
      · skip
        refine lv_iconst (v := 0) hx hb dM_live_37 (by decide) ?_
        exact kx_zret (σ' := μ) CX (by decide) hP hS dM_live_38 (by constructor <;> simp [bI, c_6, ePl, ej, e0, c_21, c_30, liveM])
      · skip
        refine lv_iconst (v := 1) hx hb dM_live_33 (by decide) ?_
        refine lv_goto (tgt := 38) hx hb dM_live_34 (by decide) ?_
        exact kx_zret (σ' := μ) CX (by decide) hP hS dM_live_38 (by constructor <;> simp [bI, c_6, ePl, ej, e0, c_21, c_30, liveM])
set_option maxRecDepth 100000 in
set_option maxHeartbeats 800000 in
theorem cM_forgive (l : Launch) (D : va_G) (cA : Nat → ClassId) {ad : Nat → Nat} (hJ : kw_J 24 ad) (μ : MS) (x1 : Int32) (n : Nat) (hn : n ≤ 16) (hm9 : μ 31 0 = nI n) : kx_Met l yM_forgive (.code yM_forgive bM_forgive 2 (Option.some .int) :: kw_T) (kw_R 2) D (kx_tys cA) 24 ad (wM cA ad) μ [.ref (ad 0), .int x1] (fun r9 u9 => r9 = some (.int ((m_forgive μ x1).1)) ∧ (m_forgive μ x1).2 = u9) := by
  refine kx_of hJ (by decide +kernel) (Nat.le_of_ble_eq_true rfl) ?_
  intro p e s m args below meth c CX ls hl hP hS
  obtain ⟨hx, hb, hr, hml, hown, hts, hlk, hK, hJ1, hZ⟩ := id CX
  have hl : lv_has ls 2 [(0, .ref (ad 0)), (1, .int x1)] := hl
  refine lv_aload_n hx hb dM_forgive_0 rfl (lv_at hl 0 rfl) ?_
  refine lv_iload_n hx hb dM_forgive_1 rfl (lv_at hl 1 rfl) ?_
  refine kx_callV1 (σ1 := μ) (v := .int (bI (noExtM μ x1 = true))) (n := 1) (As := [.int x1]) (rest := []) CX hP hS hl.1 (cM_noExtension l D cA hJ μ x1 n hn hm9) wl_547 wl_549 wp_36 wl_5 wl_550 ⟨rfl, by decide +kernel, by decide +kernel, by decide +kernel⟩ (kw_R_ok (by omega) (by omega)) ⟨rfl, rfl⟩ (k := 0) (by omega) rfl rfl rfl rfl rfl (Nat.le_of_ble_eq_true rfl) dM_forgive_2 (fun H locs hP hS => ?_)
  refine lv_if_ne (tgt := 17) hx hb dM_forgive_5 (by decide) (fun c_5 => ?_) (fun c_5 => ?_)
  · have c_5 := bI_ne0.mp c_5
    refine lv_iconst (v := (-1)) hx hb dM_forgive_17 (by decide) ?_
    exact kx_iret (σ' := μ) CX hP hS dM_forgive_18 (by constructor <;> simp [bI, c_5, m_forgive])
  · have c_5 := bI_eq0.mp c_5
    obtain ⟨j, hj, rfl⟩ := noExtM_of hn hm9 c_5
    have ej : pn (nI j) = j := pn_nI (by omega)
    refine lv_aload_n hx hb dM_forgive_8 rfl (lv_at hl 0 rfl) ?_
    refine mM_get CX hP 15 (by omega) wl_366 rfl dM_forgive_9 ?_
    refine lv_iload_n hx hb dM_forgive_12 rfl (lv_at hl 1 rfl) ?_
    refine mA_zld CX hP 14 (by omega) 16 rfl j (rfl) (by omega) dM_forgive_13 ?_
    refine lv_if_ne (tgt := 19) hx hb dM_forgive_14 (by decide) (fun c_14 => ?_) (fun c_14 => ?_)
    · skip
      refine lv_aload_n hx hb dM_forgive_19 rfl (lv_at hl 0 rfl) ?_
      refine mM_get CX hP 15 (by omega) wl_366 rfl dM_forgive_20 ?_
      refine lv_iload_n hx hb dM_forgive_23 rfl (lv_at hl 1 rfl) ?_
      refine lv_iconst (v := 0) hx hb dM_forgive_24 (by decide) ?_
      refine mA_zst CX hP hS 14 (by omega) 16 rfl (by decide) j (rfl) (by omega) dM_forgive_25 (fun H locs hP hS => ?_)
      refine lv_aload_n hx hb dM_forgive_26 rfl (lv_at hl 0 rfl) ?_
      refine mM_get CX hP 13 (by omega) wl_364 rfl dM_forgive_27 ?_
      refine lv_iload_n hx hb dM_forgive_30 rfl (lv_at hl 1 rfl) ?_
      refine lv_iconst (v := 0) hx hb dM_forgive_31 (by decide) ?_
      refine mA_st CX hP hS 12 (by omega) (by omega) 16 rfl j (rfl) (by omega) dM_forgive_32 (fun H locs hP hS => ?_)
      refine lv_iconst (v := 0) hx hb dM_forgive_33 (by decide) ?_
      exact kx_iret (σ' := upd2 (upd2 μ 14 j 0) 12 j 0) CX hP hS dM_forgive_34 (by constructor <;> simp [bI, c_5, ej, c_14, m_forgive])
    · skip
      refine lv_iconst (v := (-1)) hx hb dM_forgive_17 (by decide) ?_
      exact kx_iret (σ' := μ) CX hP hS dM_forgive_18 (by constructor <;> simp [bI, c_5, ej, c_14, m_forgive])
set_option maxRecDepth 100000 in
set_option maxHeartbeats 800000 in
theorem cM_state (l : Launch) (D : va_G) (cA : Nat → ClassId) {ad : Nat → Nat} (hJ : kw_J 24 ad) (μ : MS) (x1 : Int32) : kx_Met l yM_state (.code yM_state bM_state 2 (Option.some .int) :: kw_T) (kw_R 1) D (kx_tys cA) 24 ad (wM cA ad) μ [.ref (ad 0), .int x1] (fun r9 u9 => r9 = some (.int (m_state μ x1)) ∧ μ = u9) := by
  refine kx_of hJ (by decide +kernel) (Nat.le_of_ble_eq_true rfl) ?_
  intro p e s m args below meth c CX ls hl hP hS
  obtain ⟨hx, hb, hr, hml, hown, hts, hlk, hK, hJ1, hZ⟩ := id CX
  have hl : lv_has ls 2 [(0, .ref (ad 0)), (1, .int x1)] := hl
  refine lv_iload_n hx hb dM_state_0 rfl (lv_at hl 1 rfl) ?_
  refine lv_iconst (v := 0) hx hb dM_state_1 (by decide) ?_
  refine lv_bipush (v := 7) hx hb dM_state_2 (by decide) ?_
  refine kx_callS1 (σ1 := μ) (v := .int (bI (inR x1 0 7 = true))) (n := 3) (As := [.int x1, .int 0, .int 7]) (rest := []) CX hP hS hl.1 (cM_in l D cA hJ μ x1 0 7) wl_445 wl_446 wl_5 wl_447 ⟨by decide +kernel, by decide +kernel, by decide +kernel⟩ (kw_R_ok (by omega) (by omega)) ⟨rfl, rfl⟩ rfl rfl (Nat.le_of_ble_eq_true rfl) dM_state_4 (fun H locs hP hS => ?_)
  refine lv_if_eq (tgt := 19) hx hb dM_state_7 (by decide) (fun c_7 => ?_) (fun c_7 => ?_)
  · have c_7 := bI_eq0.mp c_7
    refine lv_iconst (v := (-1)) hx hb dM_state_19 (by decide) ?_
    exact kx_iret (σ' := μ) CX hP hS dM_state_20 (by constructor <;> simp [bI, c_7, m_state])
  · have c_7 := bI_ne0.mp c_7
    obtain ⟨j, hj, rfl⟩ := inR07_of c_7
    have ej : pn (nI j) = j := pn_nI (by omega)
    refine lv_aload_n hx hb dM_state_10 rfl (lv_at hl 0 rfl) ?_
    refine mM_get CX hP 0 (by omega) wl_351 rfl dM_state_11 ?_
    refine lv_iload_n hx hb dM_state_14 rfl (lv_at hl 1 rfl) ?_
    refine mA_ld CX hP 1 (by omega) (by omega) 8 rfl j (rfl) (by omega) dM_state_15 ?_
    refine lv_goto (tgt := 20) hx hb dM_state_16 (by decide) ?_
    exact kx_iret (σ' := μ) CX hP hS dM_state_20 (by constructor <;> simp [bI, c_7, ej, m_state])
set_option maxRecDepth 100000 in
set_option maxHeartbeats 800000 in
theorem cM_extension (l : Launch) (D : va_G) (cA : Nat → ClassId) {ad : Nat → Nat} (hJ : kw_J 24 ad) (μ : MS) (x1 x2 : Int32) (n : Nat) (hn : n ≤ 16) (hm9 : μ 31 0 = nI n) (hpl : plM μ) : kx_Met l yM_extension (.code yM_extension bM_extension 3 (Option.some .int) :: kw_T) (kw_R 2) D (kx_tys cA) 24 ad (wM cA ad) μ [.ref (ad 0), .int x1, .int x2] (fun r9 u9 => r9 = some (.int (m_extension μ x1 x2)) ∧ μ = u9) := by
  refine kx_of hJ (by decide +kernel) (Nat.le_of_ble_eq_true rfl) ?_
  intro p e s m args below meth c CX ls hl hP hS
  obtain ⟨hx, hb, hr, hml, hown, hts, hlk, hK, hJ1, hZ⟩ := id CX
  have hl : lv_has ls 3 [(0, .ref (ad 0)), (1, .int x1), (2, .int x2)] := hl
  refine lv_aload_n hx hb dM_extension_0 rfl (lv_at hl 0 rfl) ?_
  refine lv_iload_n hx hb dM_extension_1 rfl (lv_at hl 1 rfl) ?_
  refine kx_callV1 (σ1 := μ) (v := .int (bI (noExtM μ x1 = true))) (n := 1) (As := [.int x1]) (rest := []) CX hP hS hl.1 (cM_noExtension l D cA hJ μ x1 n hn hm9) wl_547 wl_549 wp_36 wl_5 wl_550 ⟨rfl, by decide +kernel, by decide +kernel, by decide +kernel⟩ (kw_R_ok (by omega) (by omega)) ⟨rfl, rfl⟩ (k := 0) (by omega) rfl rfl rfl rfl rfl (Nat.le_of_ble_eq_true rfl) dM_extension_2 (fun H locs hP hS => ?_)
  refine lv_if_eq (tgt := 10) hx hb dM_extension_5 (by decide) (fun c_5 => ?_) (fun c_5 => ?_)
  · have c_5 := bI_eq0.mp c_5
    obtain ⟨j, hj, rfl⟩ := noExtM_of hn hm9 c_5
    have ej : pn (nI j) = j := pn_nI (by omega)
    refine lv_iload_n hx hb dM_extension_10 rfl (lv_at hl 2 rfl) ?_
    by_cases k_11_0 : x2 = 0
    · refine lv_tableIn (tgt := 48) (off := 37) hx hb dM_extension_11 (by rw [k_11_0]; decide) (by rw [k_11_0]; decide) (by rw [k_11_0]; decide) (by decide) ?_
      refine lv_aload_n hx hb dM_extension_48 rfl (lv_at hl 0 rfl) ?_
      refine mM_get CX hP 8 (by omega) wl_359 rfl dM_extension_49 ?_
      refine lv_iload_n hx hb dM_extension_52 rfl (lv_at hl 1 rfl) ?_
      refine mA_ld CX hP 7 (by omega) (by omega) 16 rfl j (rfl) (by omega) dM_extension_53 ?_
      exact kx_iret (σ' := μ) CX hP hS dM_extension_54 (by constructor <;> simp [m_extension, c_5, ej, k_11_0])
    by_cases k_11_1 : x2 = 1
    · refine lv_tableIn (tgt := 55) (off := 44) hx hb dM_extension_11 (by rw [k_11_1]; decide) (by rw [k_11_1]; decide) (by rw [k_11_1]; decide) (by decide) ?_
      refine lv_aload_n hx hb dM_extension_55 rfl (lv_at hl 0 rfl) ?_
      refine mM_get CX hP 9 (by omega) wl_360 rfl dM_extension_56 ?_
      refine lv_iload_n hx hb dM_extension_59 rfl (lv_at hl 1 rfl) ?_
      refine mA_ld CX hP 8 (by omega) (by omega) 16 rfl j (rfl) (by omega) dM_extension_60 ?_
      exact kx_iret (σ' := μ) CX hP hS dM_extension_61 (by constructor <;> simp [m_extension, c_5, ej, k_11_1])
    by_cases k_11_2 : x2 = 2
    · refine lv_tableIn (tgt := 62) (off := 51) hx hb dM_extension_11 (by rw [k_11_2]; decide) (by rw [k_11_2]; decide) (by rw [k_11_2]; decide) (by decide) ?_
      refine lv_aload_n hx hb dM_extension_62 rfl (lv_at hl 0 rfl) ?_
      refine mM_get CX hP 10 (by omega) wl_361 rfl dM_extension_63 ?_
      refine lv_iload_n hx hb dM_extension_66 rfl (lv_at hl 1 rfl) ?_
      refine mA_ld CX hP 9 (by omega) (by omega) 16 rfl j (rfl) (by omega) dM_extension_67 ?_
      exact kx_iret (σ' := μ) CX hP hS dM_extension_68 (by constructor <;> simp [m_extension, c_5, ej, k_11_2])
    by_cases k_11_3 : x2 = 3
    · refine lv_tableIn (tgt := 69) (off := 58) hx hb dM_extension_11 (by rw [k_11_3]; decide) (by rw [k_11_3]; decide) (by rw [k_11_3]; decide) (by decide) ?_
      refine lv_aload_n hx hb dM_extension_69 rfl (lv_at hl 0 rfl) ?_
      refine mM_get CX hP 13 (by omega) wl_364 rfl dM_extension_70 ?_
      refine lv_iload_n hx hb dM_extension_73 rfl (lv_at hl 1 rfl) ?_
      refine mA_ld CX hP 12 (by omega) (by omega) 16 rfl j (rfl) (by omega) dM_extension_74 ?_
      exact kx_iret (σ' := μ) CX hP hS dM_extension_75 (by constructor <;> simp [m_extension, c_5, ej, k_11_3])
    by_cases k_11_4 : x2 = 4
    · refine lv_tableIn (tgt := 76) (off := 65) hx hb dM_extension_11 (by rw [k_11_4]; decide) (by rw [k_11_4]; decide) (by rw [k_11_4]; decide) (by decide) ?_
      refine lv_aload_n hx hb dM_extension_76 rfl (lv_at hl 0 rfl) ?_
      refine mM_get CX hP 14 (by omega) wl_365 rfl dM_extension_77 ?_
      refine lv_iload_n hx hb dM_extension_80 rfl (lv_at hl 1 rfl) ?_
      refine mA_ld CX hP 13 (by omega) (by omega) 16 rfl j (rfl) (by omega) dM_extension_81 ?_
      exact kx_iret (σ' := μ) CX hP hS dM_extension_82 (by constructor <;> simp [m_extension, c_5, ej, k_11_4])
    by_cases k_11_5 : x2 = 5
    · refine lv_tableIn (tgt := 83) (off := 72) hx hb dM_extension_11 (by rw [k_11_5]; decide) (by rw [k_11_5]; decide) (by rw [k_11_5]; decide) (by decide) ?_
      refine lv_aload_n hx hb dM_extension_83 rfl (lv_at hl 0 rfl) ?_
      refine mM_get CX hP 15 (by omega) wl_366 rfl dM_extension_84 ?_
      refine lv_iload_n hx hb dM_extension_87 rfl (lv_at hl 1 rfl) ?_
      refine mA_zld CX hP 14 (by omega) 16 rfl j (rfl) (by omega) dM_extension_88 ?_
      refine lv_if_eq (tgt := 96) hx hb dM_extension_89 (by decide) (fun c_89 => ?_) (fun c_89 => ?_)
      · skip
        refine lv_aload_n hx hb dM_extension_96 rfl (lv_at hl 0 rfl) ?_
        refine lv_iload_n hx hb dM_extension_97 rfl (lv_at hl 1 rfl) ?_
        refine kx_callV1 (σ1 := μ) (v := .int (bI (liveM μ j = true))) (n := 1) (As := [.int (nI j)]) (rest := []) CX hP hS hl.1 (cM_live l D cA hJ μ j (by omega) hpl) wl_516 wl_518 wp_30 wl_5 wl_519 ⟨rfl, by decide +kernel, by decide +kernel, by decide +kernel⟩ (kw_R_ok (by omega) (by omega)) ⟨rfl, rfl⟩ (k := 0) (by omega) rfl rfl rfl rfl rfl (Nat.le_of_ble_eq_true rfl) dM_extension_98 (fun H locs hP hS => ?_)
        refine lv_if_eq (tgt := 108) hx hb dM_extension_101 (by decide) (fun c_101 => ?_) (fun c_101 => ?_)
        · have c_101 := bI_eq0.mp c_101
          refine lv_iconst (v := 0) hx hb dM_extension_108 (by decide) ?_
          exact kx_iret (σ' := μ) CX hP hS dM_extension_109 (by constructor <;> simp [m_extension, c_5, ej, c_89, c_101, k_11_5])
        · have c_101 := bI_ne0.mp c_101
          refine lv_iconst (v := 1) hx hb dM_extension_104 (by decide) ?_
          refine lv_goto (tgt := 109) hx hb dM_extension_105 (by decide) ?_
          exact kx_iret (σ' := μ) CX hP hS dM_extension_109 (by constructor <;> simp [m_extension, c_5, ej, c_89, c_101, k_11_5])
      · skip
        refine lv_iconst (v := 2) hx hb dM_extension_92 (by decide) ?_
        refine lv_goto (tgt := 109) hx hb dM_extension_93 (by decide) ?_
        exact kx_iret (σ' := μ) CX hP hS dM_extension_109 (by constructor <;> simp [m_extension, c_5, ej, c_89, k_11_5])
    refine lv_tableOut (tgt := 110) hx hb dM_extension_11 (kx_sw5 k_11_0 k_11_1 k_11_2 k_11_3 k_11_4 k_11_5) (by decide) ?_
    refine lv_iconst (v := (-1)) hx hb dM_extension_110 (by decide) ?_
    exact kx_iret (σ' := μ) CX hP hS dM_extension_111 (by constructor <;> simp [m_extension, c_5, ej, k_11_0, k_11_1, k_11_2, k_11_3, k_11_4, k_11_5])
  · have c_5 := bI_ne0.mp c_5
    refine lv_iconst (v := (-1)) hx hb dM_extension_8 (by decide) ?_
    exact kx_iret (σ' := μ) CX hP hS dM_extension_9 (by constructor <;> simp [m_extension, c_5])
set_option maxRecDepth 100000 in
set_option maxHeartbeats 800000 in
theorem cM_fault (l : Launch) (D : va_G) (cA : Nat → ClassId) {ad : Nat → Nat} (hJ : kw_J 24 ad) (μ : MS) (x1 x2 : Int32) : kx_Met l yM_fault (.code yM_fault bM_fault 3 (Option.some .int) :: kw_T) (kw_R 1) D (kx_tys cA) 24 ad (wM cA ad) μ [.ref (ad 0), .int x1, .int x2] (fun r9 u9 => r9 = some (.int (m_fault μ x1 x2)) ∧ μ = u9) := by
  refine kx_of hJ (by decide +kernel) (Nat.le_of_ble_eq_true rfl) ?_
  intro p e s m args below meth c CX ls hl hP hS
  obtain ⟨hx, hb, hr, hml, hown, hts, hlk, hK, hJ1, hZ⟩ := id CX
  have hl : lv_has ls 3 [(0, .ref (ad 0)), (1, .int x1), (2, .int x2)] := hl
  refine lv_iload_n hx hb dM_fault_0 rfl (lv_at hl 1 rfl) ?_
  refine lv_iconst (v := 0) hx hb dM_fault_1 (by decide) ?_
  refine lv_bipush (v := 7) hx hb dM_fault_2 (by decide) ?_
  refine kx_callS1 (σ1 := μ) (v := .int (bI (inR x1 0 7 = true))) (n := 3) (As := [.int x1, .int 0, .int 7]) (rest := []) CX hP hS hl.1 (cM_in l D cA hJ μ x1 0 7) wl_445 wl_446 wl_5 wl_447 ⟨by decide +kernel, by decide +kernel, by decide +kernel⟩ (kw_R_ok (by omega) (by omega)) ⟨rfl, rfl⟩ rfl rfl (Nat.le_of_ble_eq_true rfl) dM_fault_4 (fun H locs hP hS => ?_)
  refine lv_if_eq (tgt := 27) hx hb dM_fault_7 (by decide) (fun c_7 => ?_) (fun c_7 => ?_)
  · have c_7 := bI_eq0.mp c_7
    refine lv_iconst (v := (-1)) hx hb dM_fault_27 (by decide) ?_
    exact kx_iret (σ' := μ) CX hP hS dM_fault_28 (by constructor <;> simp [bI, c_7, m_fault])
  · have c_7 := bI_ne0.mp c_7
    refine lv_iload_n hx hb dM_fault_10 rfl (lv_at hl 1 rfl) ?_
    refine lv_aload_n hx hb dM_fault_11 rfl (lv_at hl 0 rfl) ?_
    refine mM_get CX hP 16 (by omega) wl_367 rfl dM_fault_12 ?_
    refine lv_icmp_ge (tgt := 27) hx hb dM_fault_15 (by decide) (fun c_15 => ?_) (fun c_15 => ?_)
    · skip
      refine lv_iconst (v := (-1)) hx hb dM_fault_27 (by decide) ?_
      exact kx_iret (σ' := μ) CX hP hS dM_fault_28 (by constructor <;> simp [bI, c_7, c_15, m_fault])
    · skip
      refine lv_iload_n hx hb dM_fault_18 rfl (lv_at hl 2 rfl) ?_
      refine lv_iconst (v := 0) hx hb dM_fault_19 (by decide) ?_
      refine lv_iconst (v := 2) hx hb dM_fault_20 (by decide) ?_
      refine kx_callS1 (σ1 := μ) (v := .int (bI (inR x2 0 2 = true))) (n := 3) (As := [.int x2, .int 0, .int 2]) (rest := []) CX hP hS hl.1 (cM_in l D cA hJ μ x2 0 2) wl_445 wl_446 wl_5 wl_447 ⟨by decide +kernel, by decide +kernel, by decide +kernel⟩ (kw_R_ok (by omega) (by omega)) ⟨rfl, rfl⟩ rfl rfl (Nat.le_of_ble_eq_true rfl) dM_fault_21 (fun H locs hP hS => ?_)
      refine lv_if_ne (tgt := 29) hx hb dM_fault_24 (by decide) (fun c_24 => ?_) (fun c_24 => ?_)
      · have c_24 := bI_ne0.mp c_24
        obtain ⟨k, hk, rfl⟩ := inR02_of c_24
        have ek : pn (nI k) = k := pn_nI (by omega)
        have hl3 := lo3_lt (μ 32 0 - 1 - x1)
        refine lv_aload_n hx hb dM_fault_29 rfl (lv_at hl 0 rfl) ?_
        refine mM_get CX hP 17 (by omega) wl_368 rfl dM_fault_30 ?_
        refine lv_iconst (v := 3) hx hb dM_fault_33 (by decide) ?_
        refine lv_aload_n hx hb dM_fault_34 rfl (lv_at hl 0 rfl) ?_
        refine mM_get CX hP 16 (by omega) wl_367 rfl dM_fault_35 ?_
        refine lv_iconst (v := 1) hx hb dM_fault_38 (by decide) ?_
        refine lv_isub hx hb dM_fault_39 ?_
        refine lv_iload_n hx hb dM_fault_40 rfl (lv_at hl 1 rfl) ?_
        refine lv_isub hx hb dM_fault_41 ?_
        refine lv_bipush (v := 7) hx hb dM_fault_42 (by decide) ?_
        refine lv_iand hx hb dM_fault_44 ?_
        refine kx_topi (v' := nI (lo3 (μ 32 0 - 1 - x1))) (and7 _) ?_
        refine lv_imul hx hb dM_fault_45 ?_
        refine kx_topi (v' := nI (3 * lo3 (μ 32 0 - 1 - x1))) (pk_mul 3 _) ?_
        refine lv_iload_n hx hb dM_fault_46 rfl (lv_at hl 2 rfl) ?_
        refine lv_iadd hx hb dM_fault_47 ?_
        refine kx_topi (v' := nI (3 * lo3 (μ 32 0 - 1 - x1) + k)) (nI_add (3 * lo3 (μ 32 0 - 1 - x1)) k) ?_
        refine mA_ld CX hP 15 (by omega) (by omega) 24 rfl (3 * lo3 (μ 32 0 - 1 - x1) + k) (rfl) (by omega) dM_fault_48 ?_
        exact kx_iret (σ' := μ) CX hP hS dM_fault_49 (by constructor <;> simp [bI, c_7, c_15, c_24, ek, m_fault])
      · have c_24 := bI_eq0.mp c_24
        refine lv_iconst (v := (-1)) hx hb dM_fault_27 (by decide) ?_
        exact kx_iret (σ' := μ) CX hP hS dM_fault_28 (by constructor <;> simp [bI, c_7, c_15, c_24, m_fault])
set_option maxRecDepth 100000 in
set_option maxHeartbeats 800000 in
theorem cM_event (l : Launch) (D : va_G) (cA : Nat → ClassId) {ad : Nat → Nat} (hJ : kw_J 24 ad) (μ : MS) (x1 : Int32) : kx_Met l yM_event (.code yM_event bM_event 2 (Option.some .int) :: kw_T) (kw_R 1) D (kx_tys cA) 24 ad (wM cA ad) μ [.ref (ad 0), .int x1] (fun r9 u9 => r9 = some (.int (m_event μ x1)) ∧ μ = u9) := by
  refine kx_of hJ (by decide +kernel) (Nat.le_of_ble_eq_true rfl) ?_
  intro p e s m args below meth c CX ls hl hP hS
  obtain ⟨hx, hb, hr, hml, hown, hts, hlk, hK, hJ1, hZ⟩ := id CX
  have hl : lv_has ls 2 [(0, .ref (ad 0)), (1, .int x1)] := hl
  refine lv_iload_n hx hb dM_event_0 rfl (lv_at hl 1 rfl) ?_
  refine lv_iconst (v := 0) hx hb dM_event_1 (by decide) ?_
  refine lv_bipush (v := 15) hx hb dM_event_2 (by decide) ?_
  refine kx_callS1 (σ1 := μ) (v := .int (bI (inR x1 0 15 = true))) (n := 3) (As := [.int x1, .int 0, .int 15]) (rest := []) CX hP hS hl.1 (cM_in l D cA hJ μ x1 0 15) wl_445 wl_446 wl_5 wl_447 ⟨by decide +kernel, by decide +kernel, by decide +kernel⟩ (kw_R_ok (by omega) (by omega)) ⟨rfl, rfl⟩ rfl rfl (Nat.le_of_ble_eq_true rfl) dM_event_4 (fun H locs hP hS => ?_)
  refine lv_if_eq (tgt := 37) hx hb dM_event_7 (by decide) (fun c_7 => ?_) (fun c_7 => ?_)
  · have c_7 := bI_eq0.mp c_7
    refine lv_iconst (v := (-1)) hx hb dM_event_37 (by decide) ?_
    exact kx_iret (σ' := μ) CX hP hS dM_event_38 (by constructor <;> simp [bI, c_7, m_event])
  · have c_7 := bI_ne0.mp c_7
    refine lv_iload_n hx hb dM_event_10 rfl (lv_at hl 1 rfl) ?_
    refine lv_aload_n hx hb dM_event_11 rfl (lv_at hl 0 rfl) ?_
    refine mM_get CX hP 18 (by omega) wl_369 rfl dM_event_12 ?_
    refine lv_icmp_ge (tgt := 37) hx hb dM_event_15 (by decide) (fun c_15 => ?_) (fun c_15 => ?_)
    · skip
      refine lv_iconst (v := (-1)) hx hb dM_event_37 (by decide) ?_
      exact kx_iret (σ' := μ) CX hP hS dM_event_38 (by constructor <;> simp [bI, c_7, c_15, m_event])
    · skip
      refine lv_aload_n hx hb dM_event_18 rfl (lv_at hl 0 rfl) ?_
      refine mM_get CX hP 19 (by omega) wl_370 rfl dM_event_19 ?_
      refine lv_aload_n hx hb dM_event_22 rfl (lv_at hl 0 rfl) ?_
      refine mM_get CX hP 18 (by omega) wl_369 rfl dM_event_23 ?_
      refine lv_iconst (v := 1) hx hb dM_event_26 (by decide) ?_
      refine lv_isub hx hb dM_event_27 ?_
      refine lv_iload_n hx hb dM_event_28 rfl (lv_at hl 1 rfl) ?_
      refine lv_isub hx hb dM_event_29 ?_
      refine lv_bipush (v := 15) hx hb dM_event_30 (by decide) ?_
      refine lv_iand hx hb dM_event_32 ?_
      refine mA_ld CX hP 16 (by omega) (by omega) 16 rfl (lo4 (((μ 33 0) - 1) - x1)) (and15 _) (lo4_lt _) dM_event_33 ?_
      refine lv_goto (tgt := 38) hx hb dM_event_34 (by decide) ?_
      exact kx_iret (σ' := μ) CX hP hS dM_event_38 (by constructor <;> simp [bI, c_7, c_15, m_event])
set_option maxRecDepth 100000 in
set_option maxHeartbeats 800000 in
theorem cM_count (l : Launch) (D : va_G) (cA : Nat → ClassId) {ad : Nat → Nat} (hJ : kw_J 24 ad) (μ : MS) (x1 : Int32) (n : Nat) (hn : n ≤ 16) (hm9 : μ 31 0 = nI n) : kx_Met l yM_count (.code yM_count bM_count 4 (Option.some .int) :: kw_T) (kw_R 1) D (kx_tys cA) 24 ad (wM cA ad) μ [.ref (ad 0), .int x1] (fun r9 u9 => r9 = some (.int (m_count μ x1)) ∧ μ = u9) := by
  have en : pn (nI n) = n := pn_nI (by omega)
  refine kx_of hJ (by decide +kernel) (Nat.le_of_ble_eq_true rfl) ?_
  intro p e s m args below meth c CX ls hl hP hS
  obtain ⟨hx, hb, hr, hml, hown, hts, hlk, hK, hJ1, hZ⟩ := id CX
  have hl : lv_has ls 4 [(0, .ref (ad 0)), (1, .int x1)] := hl
  refine lv_iconst (v := 0) hx hb dM_count_0 (by decide) ?_
  refine lv_istore_n (lv' := [(2, .int 0), (0, .ref (ad 0)), (1, .int x1)]) hx hb dM_count_1 rfl hl (by decide) rfl (fun ls hl => ?_)
  refine lv_iconst (v := 0) hx hb dM_count_2 (by decide) ?_
  refine lv_istore_n (lv' := [(3, .int 0), (2, .int 0), (0, .ref (ad 0)), (1, .int x1)]) hx hb dM_count_3 rfl hl (by decide) rfl (fun ls hl => ?_)
  have loop_4 : ∀ (fu : Nat) (i : Nat) (r : Int32), (i ≤ n) → (r = m_shutN μ i) → n - i < fu → ∀ (H : Heap) (locs : List Loc), va_P D classes (kw_W 24 ad (wM cA ad μ)) H → va_S (kw_A 24 ad s.heap.size) s.heap H locs → ∀ (ls : Array Slot), lv_has ls 4 [(0, .ref (ad 0)), (1, .int x1), (2, .int r), (3, .int (nI i))] → W p l e (kw_R 1) s m args below meth c H locs 0 0 (kx_Q below D 24 ad (wM cA ad) (fun r9 u9 => r9 = some (.int (m_count μ x1)) ∧ μ = u9) args s) (F0 m 4 ls []) := by
    intro fu4
    induction fu4 with
    | zero => intro i r hi hq hm4; exact absurd hm4 (Nat.not_lt_zero _)
    | succ fu4 ih4 =>
      intro i r hi hq hm4 H locs hP hS ls hl
      refine lv_iload_n hx hb dM_count_4 rfl (lv_at hl 3 rfl) ?_
      refine lv_aload_n hx hb dM_count_5 rfl (lv_at hl 0 rfl) ?_
      refine mM_get CX hP 7 (by omega) wl_358 rfl dM_count_6 ?_
      refine kx_topi (v' := nI n) (hm9) ?_
      refine lv_icmp_ge (tgt := 39) hx hb dM_count_9 (by decide) (fun c_9 => ?_) (fun c_9 => ?_)
      · have c_9i := c_9
        have c_9 : n ≤ i := (nI_le' (a := n) (b := i) (by omega) (by omega)).mp c_9
        refine lv_iload_n hx hb dM_count_39 rfl (lv_at hl 1 rfl) ?_
        by_cases k_40_0 : x1 = 0
        · refine lv_tableIn (tgt := 76) (off := 36) hx hb dM_count_40 (by rw [k_40_0]; decide) (by rw [k_40_0]; decide) (by rw [k_40_0]; decide) (by decide) ?_
          refine lv_aload_n hx hb dM_count_76 rfl (lv_at hl 0 rfl) ?_
          refine kx_callV1 (σ1 := μ) (v := .int (m_cnt μ 8)) (n := 0) (As := []) (rest := []) CX hP hS hl.1 (cM_active l D cA hJ μ) wl_500 wl_502 wp_27 wl_5 wl_503 ⟨rfl, by decide +kernel, by decide +kernel, by decide +kernel⟩ (kw_R_ok (by omega) (by omega)) ⟨rfl, rfl⟩ (k := 0) (by omega) rfl rfl rfl rfl rfl (Nat.le_of_ble_eq_true rfl) dM_count_77 (fun H locs hP hS => ?_)
          exact kx_iret (σ' := μ) CX hP hS dM_count_80 (by (have hin : i = n := by omega); subst hin; constructor <;> simp [m_count, hm9, en, hq, k_40_0])
        by_cases k_40_1 : x1 = 1
        · refine lv_tableIn (tgt := 81) (off := 41) hx hb dM_count_40 (by rw [k_40_1]; decide) (by rw [k_40_1]; decide) (by rw [k_40_1]; decide) (by decide) ?_
          refine lv_aload_n hx hb dM_count_81 rfl (lv_at hl 0 rfl) ?_
          refine mM_get CX hP 7 (by omega) wl_358 rfl dM_count_82 ?_
          exact kx_iret (σ' := μ) CX hP hS dM_count_85 (by (have hin : i = n := by omega); subst hin; constructor <;> simp [m_count, hm9, en, hq, k_40_1])
        by_cases k_40_2 : x1 = 2
        · refine lv_tableIn (tgt := 86) (off := 46) hx hb dM_count_40 (by rw [k_40_2]; decide) (by rw [k_40_2]; decide) (by rw [k_40_2]; decide) (by decide) ?_
          refine lv_aload_n hx hb dM_count_86 rfl (lv_at hl 0 rfl) ?_
          refine mM_get CX hP 16 (by omega) wl_367 rfl dM_count_87 ?_
          exact kx_iret (σ' := μ) CX hP hS dM_count_90 (by (have hin : i = n := by omega); subst hin; constructor <;> simp [m_count, hm9, en, hq, k_40_2])
        by_cases k_40_3 : x1 = 3
        · refine lv_tableIn (tgt := 91) (off := 51) hx hb dM_count_40 (by rw [k_40_3]; decide) (by rw [k_40_3]; decide) (by rw [k_40_3]; decide) (by decide) ?_
          refine lv_aload_n hx hb dM_count_91 rfl (lv_at hl 0 rfl) ?_
          refine mM_get CX hP 18 (by omega) wl_369 rfl dM_count_92 ?_
          exact kx_iret (σ' := μ) CX hP hS dM_count_95 (by (have hin : i = n := by omega); subst hin; constructor <;> simp [m_count, hm9, en, hq, k_40_3])
        by_cases k_40_4 : x1 = 4
        · refine lv_tableIn (tgt := 96) (off := 56) hx hb dM_count_40 (by rw [k_40_4]; decide) (by rw [k_40_4]; decide) (by rw [k_40_4]; decide) (by decide) ?_
          refine lv_iload_n hx hb dM_count_96 rfl (lv_at hl 2 rfl) ?_
          exact kx_iret (σ' := μ) CX hP hS dM_count_97 (by (have hin : i = n := by omega); subst hin; constructor <;> simp [m_count, hm9, en, hq, k_40_4])
        refine lv_tableOut (tgt := 98) hx hb dM_count_40 (kx_sw4 k_40_0 k_40_1 k_40_2 k_40_3 k_40_4) (by decide) ?_
        refine lv_iconst (v := (-1)) hx hb dM_count_98 (by decide) ?_
        exact kx_iret (σ' := μ) CX hP hS dM_count_99 (by (have hin : i = n := by omega); subst hin; constructor <;> simp [m_count, hm9, en, hq, k_40_0, k_40_1, k_40_2, k_40_3, k_40_4])
      · have c_9i := c_9
        have c_9 : ¬ (n ≤ i) := fun hq9 => c_9 ((nI_le' (a := n) (b := i) (by omega) (by omega)).mpr hq9)
        refine lv_aload_n hx hb dM_count_12 rfl (lv_at hl 0 rfl) ?_
        refine mM_get CX hP 8 (by omega) wl_359 rfl dM_count_13 ?_
        refine lv_iload_n hx hb dM_count_16 rfl (lv_at hl 3 rfl) ?_
        refine mA_ld CX hP 7 (by omega) (by omega) 16 rfl i (rfl) (by omega) dM_count_17 ?_
        refine lv_if_lt (tgt := 33) hx hb dM_count_18 (by decide) (fun c_18 => ?_) (fun c_18 => ?_)
        · skip
          refine lv_iinc (v := nI (i + 1)) (lv' := [(3, .int (nI (i + 1))), (0, .ref (ad 0)), (1, .int x1), (2, .int r)]) hx hb dM_count_33 hl (k := 3) rfl (nI_i1 i) (by decide) rfl (fun ls hl => ?_)
          refine lv_goto (tgt := 4) hx hb dM_count_36 (by decide) ?_
          exact ih4 (i + 1) r (by omega) (by simp [m_shutN, hq, c_18]) (by omega) _ _ hP hS ls (lv_sub hl [1, 2, 3, 0] rfl)
        · skip
          refine lv_aload_n hx hb dM_count_21 rfl (lv_at hl 0 rfl) ?_
          refine mM_get CX hP 15 (by omega) wl_366 rfl dM_count_22 ?_
          refine lv_iload_n hx hb dM_count_25 rfl (lv_at hl 3 rfl) ?_
          refine mA_zld CX hP 14 (by omega) 16 rfl i (rfl) (by omega) dM_count_26 ?_
          refine lv_if_eq (tgt := 33) hx hb dM_count_27 (by decide) (fun c_27 => ?_) (fun c_27 => ?_)
          · skip
            refine lv_iinc (v := nI (i + 1)) (lv' := [(3, .int (nI (i + 1))), (0, .ref (ad 0)), (1, .int x1), (2, .int r)]) hx hb dM_count_33 hl (k := 3) rfl (nI_i1 i) (by decide) rfl (fun ls hl => ?_)
            refine lv_goto (tgt := 4) hx hb dM_count_36 (by decide) ?_
            exact ih4 (i + 1) r (by omega) (by simp [m_shutN, hq, c_18, c_27]) (by omega) _ _ hP hS ls (lv_sub hl [1, 2, 3, 0] rfl)
          · skip
            refine lv_iinc (v := r + 1) (lv' := [(2, .int (r + 1)), (0, .ref (ad 0)), (1, .int x1), (3, .int (nI i))]) hx hb dM_count_30 hl (k := 2) rfl (rfl) (by decide) rfl (fun ls hl => ?_)
            refine lv_iinc (v := nI (i + 1)) (lv' := [(3, .int (nI (i + 1))), (2, .int (r + 1)), (0, .ref (ad 0)), (1, .int x1)]) hx hb dM_count_33 hl (k := 3) rfl (nI_i1 i) (by decide) rfl (fun ls hl => ?_)
            refine lv_goto (tgt := 4) hx hb dM_count_36 (by decide) ?_
            exact ih4 (i + 1) (r + 1) (by omega) (by simp [m_shutN, hq, c_18, c_27]) (by omega) _ _ hP hS ls (lv_sub hl [2, 3, 1, 0] rfl)
  exact loop_4 ((n - 0) + 1) 0 0 (by omega) rfl (Nat.lt_succ_self _) _ _ hP hS ls (lv_sub hl [2, 3, 1, 0] rfl)
