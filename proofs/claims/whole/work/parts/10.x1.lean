/-! what the class's methods do to its raw state -/
def pn (x : Int32) : Nat := x.toNatClampNeg
theorem pn_nI {j : Nat} (h : j < 2 ^ 31) : pn (nI j) = j := nI_clamp h
def in8 (x : Int32) : Bool := decide (¬ x < 0 ∧ ¬ 8 ≤ x)
def in3 (x : Int32) : Bool := decide (¬ x < 0 ∧ ¬ 3 ≤ x)
def in16 (x : Int32) : Bool := decide (¬ x < 0 ∧ ¬ 16 ≤ x)
theorem inn_of {n : Nat} (hn : n < 2 ^ 31) {x : Int32} (h : ¬ x < 0 ∧ ¬ nI n ≤ x) : ∃ j : Nat, j < n ∧ x = nI j := by
  rcases pk_ix x hn with q | q | q
  · exact absurd q h.1
  · exact absurd q h.2
  · exact q
theorem in8_of {x : Int32} (h : in8 x = true) : ∃ j : Nat, j < 8 ∧ x = nI j := inn_of (n := 8) (by omega) (of_decide_eq_true h)
theorem in3_of {x : Int32} (h : in3 x = true) : ∃ j : Nat, j < 3 ∧ x = nI j := inn_of (n := 3) (by omega) (of_decide_eq_true h)
theorem in16_of {x : Int32} (h : in16 x = true) : ∃ j : Nat, j < 16 ∧ x = nI j := inn_of (n := 16) (by omega) (of_decide_eq_true h)
def bitb (v k : Int32) : Bool := decide ((v >>> (k &&& 31)) &&& 1 = 1)
/-- History.note: the place is taken from the count's last four bits -/
def hnote (σ : XS) (h : Nat) (x : Int32) : XS := xs (xs σ (40 + h) (lo4 (σ.1 (30 + h) 0)) x) (30 + h) 0 (σ.1 (30 + h) 0 + 1)
def hlast (σ : XS) (h : Nat) (k : Int32) : Int32 := if k < 0 ∨ nI (wX_kept h) ≤ k ∨ ¬ k < σ.1 (30 + h) 0 then -1 else σ.1 (40 + h) (lo4 (σ.1 (30 + h) 0 - 1 - k))
def x_clear (σ : XS) (i : Nat) : XS := xs (xs (xs (xs σ 1 i 0) 2 i 0) 3 i 0) 4 i 0
def shutX (σ : XS) (e : Nat) : Bool := decide (¬ σ.1 11 e = 0 ∧ 3 ≤ σ.1 17 e)
set_option maxRecDepth 100000 in
set_option maxHeartbeats 800000 in
theorem cP_requires (l : Launch) (D : va_G) (cA : Nat → ClassId) {ad : Nat → Nat} (hJ : kw_J 36 ad) (σ : XS) (i : Nat) (hi : i < 8) (x1 : Int32) : kx_Met l yP_requires (.code yP_requires bP_requires 2 (Option.some .boolean) :: kw_T) (kw_R 0) D (kx_tys cA) 36 ad (wX cA ad) σ [.ref (ad (12 + i)), .int x1] (fun r9 u9 => r9 = some (.int (bI (bitb (σ.1 2 i) x1 = true))) ∧ σ = u9) := by
  refine kx_of hJ (by decide +kernel) (Nat.le_of_ble_eq_true rfl) ?_
  intro p e s m args below meth c CX ls hl hP hS
  obtain ⟨hx, hb, hr, hml, hown, hts, hlk, hK, hJ1, hZ⟩ := id CX
  have hl : lv_has ls 2 [(0, .ref (ad (12 + i))), (1, .int x1)] := hl
  refine lv_aload_n hx hb dP_requires_0 rfl (lv_at hl 0 rfl) ?_
  refine xP_get CX hP (by omega) 2 (by omega) wl_46 rfl dP_requires_1 ?_
  refine lv_iload_n hx hb dP_requires_4 rfl (lv_at hl 1 rfl) ?_
  refine lv_ishr hx hb dP_requires_5 ?_
  refine lv_iconst (v := 1) hx hb dP_requires_6 (by decide) ?_
  refine lv_iand hx hb dP_requires_7 ?_
  refine lv_iconst (v := 1) hx hb dP_requires_8 (by decide) ?_
  refine lv_icmp_ne (tgt := 16) hx hb dP_requires_9 (by decide) (fun c_9 => ?_) (fun c_9 => ?_)
  · skip
    refine lv_iconst (v := 0) hx hb dP_requires_16 (by decide) ?_
    exact kx_zret (σ' := σ) CX (by decide) hP hS dP_requires_17 (by constructor <;> simp [bI, c_9, bitb])
  · skip
    refine lv_iconst (v := 1) hx hb dP_requires_12 (by decide) ?_
    refine lv_goto (tgt := 17) hx hb dP_requires_13 (by decide) ?_
    exact kx_zret (σ' := σ) CX (by decide) hP hS dP_requires_17 (by constructor <;> simp [bI, c_9, bitb])
set_option maxRecDepth 100000 in
set_option maxHeartbeats 800000 in
theorem cP_wishes (l : Launch) (D : va_G) (cA : Nat → ClassId) {ad : Nat → Nat} (hJ : kw_J 36 ad) (σ : XS) (i : Nat) (hi : i < 8) (x1 : Int32) : kx_Met l yP_wishes (.code yP_wishes bP_wishes 2 (Option.some .boolean) :: kw_T) (kw_R 0) D (kx_tys cA) 36 ad (wX cA ad) σ [.ref (ad (12 + i)), .int x1] (fun r9 u9 => r9 = some (.int (bI (bitb (σ.1 3 i) x1 = true))) ∧ σ = u9) := by
  refine kx_of hJ (by decide +kernel) (Nat.le_of_ble_eq_true rfl) ?_
  intro p e s m args below meth c CX ls hl hP hS
  obtain ⟨hx, hb, hr, hml, hown, hts, hlk, hK, hJ1, hZ⟩ := id CX
  have hl : lv_has ls 2 [(0, .ref (ad (12 + i))), (1, .int x1)] := hl
  refine lv_aload_n hx hb dP_wishes_0 rfl (lv_at hl 0 rfl) ?_
  refine xP_get CX hP (by omega) 3 (by omega) wl_48 rfl dP_wishes_1 ?_
  refine lv_iload_n hx hb dP_wishes_4 rfl (lv_at hl 1 rfl) ?_
  refine lv_ishr hx hb dP_wishes_5 ?_
  refine lv_iconst (v := 1) hx hb dP_wishes_6 (by decide) ?_
  refine lv_iand hx hb dP_wishes_7 ?_
  refine lv_iconst (v := 1) hx hb dP_wishes_8 (by decide) ?_
  refine lv_icmp_ne (tgt := 16) hx hb dP_wishes_9 (by decide) (fun c_9 => ?_) (fun c_9 => ?_)
  · skip
    refine lv_iconst (v := 0) hx hb dP_wishes_16 (by decide) ?_
    exact kx_zret (σ' := σ) CX (by decide) hP hS dP_wishes_17 (by constructor <;> simp [bI, c_9, bitb])
  · skip
    refine lv_iconst (v := 1) hx hb dP_wishes_12 (by decide) ?_
    refine lv_goto (tgt := 17) hx hb dP_wishes_13 (by decide) ?_
    exact kx_zret (σ' := σ) CX (by decide) hP hS dP_wishes_17 (by constructor <;> simp [bI, c_9, bitb])
set_option maxRecDepth 100000 in
set_option maxHeartbeats 800000 in
theorem cP_clear (l : Launch) (D : va_G) (cA : Nat → ClassId) {ad : Nat → Nat} (hJ : kw_J 36 ad) (σ : XS) (i : Nat) (hi : i < 8) : kx_Met l yP_clear (.code yP_clear bP_clear 1 none :: kw_T) (kw_R 0) D (kx_tys cA) 36 ad (wX cA ad) σ [.ref (ad (12 + i))] (fun r9 u9 => r9 = none ∧ x_clear σ i = u9) := by
  refine kx_of hJ (by decide +kernel) (Nat.le_of_ble_eq_true rfl) ?_
  intro p e s m args below meth c CX ls hl hP hS
  obtain ⟨hx, hb, hr, hml, hown, hts, hlk, hK, hJ1, hZ⟩ := id CX
  have hl : lv_has ls 1 [(0, .ref (ad (12 + i)))] := hl
  refine lv_aload_n hx hb dP_clear_0 rfl (lv_at hl 0 rfl) ?_
  refine lv_iconst (v := 0) hx hb dP_clear_1 (by decide) ?_
  refine xP_put CX hP hS (by omega) 1 (by omega) (by omega) wl_45 ⟨rfl, rfl⟩ dP_clear_2 (fun H locs hP hS => ?_)
  refine lv_aload_n hx hb dP_clear_5 rfl (lv_at hl 0 rfl) ?_
  refine lv_iconst (v := 0) hx hb dP_clear_6 (by decide) ?_
  refine xP_put CX hP hS (by omega) 2 (by omega) (by omega) wl_46 ⟨rfl, rfl⟩ dP_clear_7 (fun H locs hP hS => ?_)
  refine lv_aload_n hx hb dP_clear_10 rfl (lv_at hl 0 rfl) ?_
  refine lv_iconst (v := 0) hx hb dP_clear_11 (by decide) ?_
  refine xP_put CX hP hS (by omega) 3 (by omega) (by omega) wl_48 ⟨rfl, rfl⟩ dP_clear_12 (fun H locs hP hS => ?_)
  refine lv_aload_n hx hb dP_clear_15 rfl (lv_at hl 0 rfl) ?_
  refine lv_iconst (v := 0) hx hb dP_clear_16 (by decide) ?_
  refine xP_put CX hP hS (by omega) 4 (by omega) (by omega) wl_50 ⟨rfl, rfl⟩ dP_clear_17 (fun H locs hP hS => ?_)
  exact kx_vret (σ' := xs (xs (xs (xs σ 1 i 0) 2 i 0) 3 i 0) 4 i 0) CX hP hS dP_clear_20 (⟨rfl, rfl⟩)
set_option maxRecDepth 100000 in
set_option maxHeartbeats 800000 in
theorem cE_isShutOut (l : Launch) (D : va_G) (cA : Nat → ClassId) {ad : Nat → Nat} (hJ : kw_J 36 ad) (σ : XS) (i : Nat) (hi : i < 16) : kx_Met l yE_isShutOut (.code yE_isShutOut bE_isShutOut 1 (Option.some .boolean) :: kw_T) (kw_R 0) D (kx_tys cA) 36 ad (wX cA ad) σ [.ref (ad (20 + i))] (fun r9 u9 => r9 = some (.int (bI (shutX σ i = true))) ∧ σ = u9) := by
  refine kx_of hJ (by decide +kernel) (Nat.le_of_ble_eq_true rfl) ?_
  intro p e s m args below meth c CX ls hl hP hS
  obtain ⟨hx, hb, hr, hml, hown, hts, hlk, hK, hJ1, hZ⟩ := id CX
  have hl : lv_has ls 1 [(0, .ref (ad (20 + i)))] := hl
  refine lv_aload_n hx hb dE_isShutOut_0 rfl (lv_at hl 0 rfl) ?_
  refine xE_get CX hP (by omega) 1 (by omega) wl_82 rfl dE_isShutOut_1 ?_
  refine lv_if_eq (tgt := 19) hx hb dE_isShutOut_4 (by decide) (fun c_4 => ?_) (fun c_4 => ?_)
  · skip
    refine lv_iconst (v := 0) hx hb dE_isShutOut_19 (by decide) ?_
    exact kx_zret (σ' := σ) CX (by decide) hP hS dE_isShutOut_20 (by constructor <;> simp [bI, c_4, shutX])
  · skip
    refine lv_aload_n hx hb dE_isShutOut_7 rfl (lv_at hl 0 rfl) ?_
    refine xE_get CX hP (by omega) 7 (by omega) wl_89 rfl dE_isShutOut_8 ?_
    refine lv_iconst (v := 3) hx hb dE_isShutOut_11 (by decide) ?_
    refine lv_icmp_lt (tgt := 19) hx hb dE_isShutOut_12 (by decide) (fun c_12 => ?_) (fun c_12 => ?_)
    · skip
      refine lv_iconst (v := 0) hx hb dE_isShutOut_19 (by decide) ?_
      exact kx_zret (σ' := σ) CX (by decide) hP hS dE_isShutOut_20 (by constructor <;> simp [bI, c_4, c_12, shutX])
    · skip
      refine lv_iconst (v := 1) hx hb dE_isShutOut_15 (by decide) ?_
      refine lv_goto (tgt := 20) hx hb dE_isShutOut_16 (by decide) ?_
      exact kx_zret (σ' := σ) CX (by decide) hP hS dE_isShutOut_20 (by constructor <;> simp [bI, c_4, c_12, shutX])
set_option maxRecDepth 100000 in
set_option maxHeartbeats 800000 in
theorem cH_note (l : Launch) (D : va_G) (cA : Nat → ClassId) {ad : Nat → Nat} (hJ : kw_J 36 ad) (σ : XS) (h : Nat) (hh : h < 4) (x1 : Int32) : kx_Met l yH_note (.code yH_note bH_note 2 none :: kw_T) (kw_R 0) D (kx_tys cA) 36 ad (wX cA ad) σ [.ref (ad (4 + h)), .int x1] (fun r9 u9 => r9 = none ∧ hnote σ h x1 = u9) := by
  refine kx_of hJ (by decide +kernel) (Nat.le_of_ble_eq_true rfl) ?_
  intro p e s m args below meth c CX ls hl hP hS
  obtain ⟨hx, hb, hr, hml, hown, hts, hlk, hK, hJ1, hZ⟩ := id CX
  have hl : lv_has ls 2 [(0, .ref (ad (4 + h))), (1, .int x1)] := hl
  refine lv_aload_n hx hb dH_note_0 rfl (lv_at hl 0 rfl) ?_
  refine xH_get (i := h) CX hP (by omega) 0 (by omega) wl_25 rfl dH_note_1 ?_
  refine lv_aload_n hx hb dH_note_4 rfl (lv_at hl 0 rfl) ?_
  refine xH_get (i := h) CX hP (by omega) 2 (by omega) wl_27 rfl dH_note_5 ?_
  refine lv_bipush (v := 15) hx hb dH_note_8 (by decide) ?_
  refine lv_iand hx hb dH_note_10 ?_
  refine lv_iload_n hx hb dH_note_11 rfl (lv_at hl 1 rfl) ?_
  refine xR_st CX hP hS (by omega) (lo4 (σ.1 (30 + h) 0)) (and15 _) (lo4_lt _) dH_note_12 (fun H locs hP hS => ?_)
  refine lv_aload_n hx hb dH_note_13 rfl (lv_at hl 0 rfl) ?_
  refine lv_dup hx hb dH_note_14 rfl ?_
  refine xH_get (i := h) CX hP (by omega) 2 (by omega) wl_27 rfl dH_note_15 ?_
  refine lv_iconst (v := 1) hx hb dH_note_18 (by decide) ?_
  refine lv_iadd hx hb dH_note_19 ?_
  refine xH_put (i := h) CX hP hS (by omega) wl_27 dH_note_20 (fun H locs hP hS => ?_)
  exact kx_vret (σ' := xs (xs σ (40 + h) (lo4 (σ.1 (30 + h) 0)) x1) (30 + h) 0 (((xs σ (40 + h) (lo4 (σ.1 (30 + h) 0)) x1).1 (30 + h) 0) + 1)) CX hP hS dH_note_23 (⟨rfl, by simp [hnote, xs, upd2_at, show ¬ (30 + h = 40 + h) by omega]⟩)
set_option maxRecDepth 100000 in
set_option maxHeartbeats 800000 in
theorem cH_last (l : Launch) (D : va_G) (cA : Nat → ClassId) {ad : Nat → Nat} (hJ : kw_J 36 ad) (σ : XS) (h : Nat) (hh : h < 4) (x1 : Int32) : kx_Met l yH_last (.code yH_last bH_last 2 (Option.some .int) :: kw_T) (kw_R 0) D (kx_tys cA) 36 ad (wX cA ad) σ [.ref (ad (4 + h)), .int x1] (fun r9 u9 => r9 = some (.int (hlast σ h x1)) ∧ σ = u9) := by
  refine kx_of hJ (by decide +kernel) (Nat.le_of_ble_eq_true rfl) ?_
  intro p e s m args below meth c CX ls hl hP hS
  obtain ⟨hx, hb, hr, hml, hown, hts, hlk, hK, hJ1, hZ⟩ := id CX
  have hl : lv_has ls 2 [(0, .ref (ad (4 + h))), (1, .int x1)] := hl
  refine lv_iload_n hx hb dH_last_0 rfl (lv_at hl 1 rfl) ?_
  refine lv_if_lt (tgt := 20) hx hb dH_last_1 (by decide) (fun c_1 => ?_) (fun c_1 => ?_)
  · skip
    refine lv_iconst (v := (-1)) hx hb dH_last_20 (by decide) ?_
    exact kx_iret (σ' := σ) CX hP hS dH_last_21 (by constructor <;> simp [bI, c_1, hlast])
  · skip
    refine lv_iload_n hx hb dH_last_4 rfl (lv_at hl 1 rfl) ?_
    refine lv_aload_n hx hb dH_last_5 rfl (lv_at hl 0 rfl) ?_
    refine xH_get (i := h) CX hP (by omega) 1 (by omega) wl_26 rfl dH_last_6 ?_
    refine lv_icmp_ge (tgt := 20) hx hb dH_last_9 (by decide) (fun c_9 => ?_) (fun c_9 => ?_)
    · skip
      refine lv_iconst (v := (-1)) hx hb dH_last_20 (by decide) ?_
      exact kx_iret (σ' := σ) CX hP hS dH_last_21 (by constructor <;> simp [bI, c_1, c_9, hlast])
    · skip
      refine lv_iload_n hx hb dH_last_12 rfl (lv_at hl 1 rfl) ?_
      refine lv_aload_n hx hb dH_last_13 rfl (lv_at hl 0 rfl) ?_
      refine xH_get (i := h) CX hP (by omega) 2 (by omega) wl_27 rfl dH_last_14 ?_
      refine lv_icmp_lt (tgt := 22) hx hb dH_last_17 (by decide) (fun c_17 => ?_) (fun c_17 => ?_)
      · skip
        refine lv_aload_n hx hb dH_last_22 rfl (lv_at hl 0 rfl) ?_
        refine xH_get (i := h) CX hP (by omega) 0 (by omega) wl_25 rfl dH_last_23 ?_
        refine lv_aload_n hx hb dH_last_26 rfl (lv_at hl 0 rfl) ?_
        refine xH_get (i := h) CX hP (by omega) 2 (by omega) wl_27 rfl dH_last_27 ?_
        refine lv_iconst (v := 1) hx hb dH_last_30 (by decide) ?_
        refine lv_isub hx hb dH_last_31 ?_
        refine lv_iload_n hx hb dH_last_32 rfl (lv_at hl 1 rfl) ?_
        refine lv_isub hx hb dH_last_33 ?_
        refine lv_bipush (v := 15) hx hb dH_last_34 (by decide) ?_
        refine lv_iand hx hb dH_last_36 ?_
        refine xR_ld CX hP (by omega) (lo4 (((σ.1 (30 + h) 0) - 1) - x1)) (and15 _) (lo4_lt _) dH_last_37 ?_
        exact kx_iret (σ' := σ) CX hP hS dH_last_38 (by constructor <;> simp [bI, c_1, c_9, c_17, hlast])
      · skip
        refine lv_iconst (v := (-1)) hx hb dH_last_20 (by decide) ?_
        exact kx_iret (σ' := σ) CX hP hS dH_last_21 (by constructor <;> simp [bI, c_1, c_9, c_17, hlast])
set_option maxRecDepth 100000 in
set_option maxHeartbeats 800000 in
theorem cX_isPlugin (l : Launch) (D : va_G) (cA : Nat → ClassId) {ad : Nat → Nat} (hJ : kw_J 36 ad) (σ : XS) (x1 : Int32) : kx_Met l yX_isPlugin (.code yX_isPlugin bX_isPlugin 1 (Option.some .boolean) :: kw_T) (kw_R 0) D (kx_tys cA) 36 ad (wX cA ad) σ [.int x1] (fun r9 u9 => r9 = some (.int (bI (in8 x1 = true))) ∧ σ = u9) := by
  refine kx_of hJ (by decide +kernel) (Nat.le_of_ble_eq_true rfl) ?_
  intro p e s m args below meth c CX ls hl hP hS
  obtain ⟨hx, hb, hr, hml, hown, hts, hlk, hK, hJ1, hZ⟩ := id CX
  have hl : lv_has ls 1 [(0, .int x1)] := hl
  refine lv_iload_n hx hb dX_isPlugin_0 rfl (lv_at hl 0 rfl) ?_
  refine lv_if_lt (tgt := 14) hx hb dX_isPlugin_1 (by decide) (fun c_1 => ?_) (fun c_1 => ?_)
  · skip
    refine lv_iconst (v := 0) hx hb dX_isPlugin_14 (by decide) ?_
    exact kx_zret (σ' := σ) CX (by decide) hP hS dX_isPlugin_15 (by constructor <;> simp [bI, c_1, in8])
  · skip
    refine lv_iload_n hx hb dX_isPlugin_4 rfl (lv_at hl 0 rfl) ?_
    refine lv_bipush (v := 8) hx hb dX_isPlugin_5 (by decide) ?_
    refine lv_icmp_ge (tgt := 14) hx hb dX_isPlugin_7 (by decide) (fun c_7 => ?_) (fun c_7 => ?_)
    · skip
      refine lv_iconst (v := 0) hx hb dX_isPlugin_14 (by decide) ?_
      exact kx_zret (σ' := σ) CX (by decide) hP hS dX_isPlugin_15 (by constructor <;> simp [bI, c_1, c_7, in8])
    · skip
      refine lv_iconst (v := 1) hx hb dX_isPlugin_10 (by decide) ?_
      refine lv_goto (tgt := 15) hx hb dX_isPlugin_11 (by decide) ?_
      exact kx_zret (σ' := σ) CX (by decide) hP hS dX_isPlugin_15 (by constructor <;> simp [bI, c_1, c_7, in8])
set_option maxRecDepth 100000 in
set_option maxHeartbeats 800000 in
theorem cX_isPoint (l : Launch) (D : va_G) (cA : Nat → ClassId) {ad : Nat → Nat} (hJ : kw_J 36 ad) (σ : XS) (x1 : Int32) : kx_Met l yX_isPoint (.code yX_isPoint bX_isPoint 1 (Option.some .boolean) :: kw_T) (kw_R 0) D (kx_tys cA) 36 ad (wX cA ad) σ [.int x1] (fun r9 u9 => r9 = some (.int (bI (in3 x1 = true))) ∧ σ = u9) := by
  refine kx_of hJ (by decide +kernel) (Nat.le_of_ble_eq_true rfl) ?_
  intro p e s m args below meth c CX ls hl hP hS
  obtain ⟨hx, hb, hr, hml, hown, hts, hlk, hK, hJ1, hZ⟩ := id CX
  have hl : lv_has ls 1 [(0, .int x1)] := hl
  refine lv_iload_n hx hb dX_isPoint_0 rfl (lv_at hl 0 rfl) ?_
  refine lv_if_lt (tgt := 13) hx hb dX_isPoint_1 (by decide) (fun c_1 => ?_) (fun c_1 => ?_)
  · skip
    refine lv_iconst (v := 0) hx hb dX_isPoint_13 (by decide) ?_
    exact kx_zret (σ' := σ) CX (by decide) hP hS dX_isPoint_14 (by constructor <;> simp [bI, c_1, in3])
  · skip
    refine lv_iload_n hx hb dX_isPoint_4 rfl (lv_at hl 0 rfl) ?_
    refine lv_iconst (v := 3) hx hb dX_isPoint_5 (by decide) ?_
    refine lv_icmp_ge (tgt := 13) hx hb dX_isPoint_6 (by decide) (fun c_6 => ?_) (fun c_6 => ?_)
    · skip
      refine lv_iconst (v := 0) hx hb dX_isPoint_13 (by decide) ?_
      exact kx_zret (σ' := σ) CX (by decide) hP hS dX_isPoint_14 (by constructor <;> simp [bI, c_1, c_6, in3])
    · skip
      refine lv_iconst (v := 1) hx hb dX_isPoint_9 (by decide) ?_
      refine lv_goto (tgt := 14) hx hb dX_isPoint_10 (by decide) ?_
      exact kx_zret (σ' := σ) CX (by decide) hP hS dX_isPoint_14 (by constructor <;> simp [bI, c_1, c_6, in3])
