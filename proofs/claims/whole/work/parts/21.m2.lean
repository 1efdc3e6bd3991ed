theorem lcv_lt {a b : Int32} : lg_cmp a.toInt64 b.toInt64 < 0 ↔ a < b := by
  rw [lg_cmp_lt, Int64.lt_iff_toInt_lt, Int32.toInt_toInt64, Int32.toInt_toInt64, Int32.lt_iff_toInt_lt]
theorem lcv_eq {a b : Int32} : lg_cmp a.toInt64 b.toInt64 = 0 ↔ a = b := by
  have h1 := lg_cmp_ge a.toInt64 b.toInt64
  have h2 := lg_cmp_le a.toInt64 b.toInt64
  rw [Int64.le_iff_toInt_le, Int32.toInt_toInt64, Int32.toInt_toInt64] at h1 h2
  rw [Int32.le_iff_toInt_le] at h1 h2
  rw [← Int32.toInt_inj, ← Int32.toInt_inj]
  have h0 : (0 : Int32).toInt = 0 := rfl
  omega
/-- f stands before e at the point p -/
def befM (μ : MS) (p : Int32) (e f : Nat) : Bool := liveM μ f && decide (μ 8 f = p) && decide (¬ f = e) && (decide (μ 11 f < μ 11 e) || (decide (μ 11 f = μ 11 e) && decide (¬ e ≤ f)))
def m_bef (μ : MS) (p : Int32) (e : Nat) : Nat → Int32
  | 0 => 0
  | n + 1 => if befM μ p e n = true then m_bef μ p e n + 1 else m_bef μ p e n
def m_ordL (n : Nat) (μ : MS) (p k : Int32) : Nat → Nat → Int32
  | 0, _ => -1
  | m + 1, e => if liveM μ e = true ∧ μ 8 e = p ∧ m_bef μ p e n = k then nI e else m_ordL n μ p k m (e + 1)
def m_ord (n : Nat) (μ : MS) (p k : Int32) : Int32 := m_ordL n μ p k n 0
def m_at (n : Nat) (μ : MS) (x k : Int32) : Int32 := if inR x 0 2 = true ∧ 0 ≤ k ∧ 0 ≤ m_ord n μ x k then m_ord n μ x k else -1
def m_wS (μ : MS) (p : Int32) : Nat → Int
  | 0 => 0
  | n + 1 => if liveM μ n = true ∧ μ 8 n = p then m_wS μ p n + (μ 11 n).toInt else m_wS μ p n
theorem l_add (S : Int) (x : Int32) : Int64.ofInt S + x.toInt64 = Int64.ofInt (S + x.toInt) := by
  rw [Int64.ofInt_add]
  congr 1
theorem l_toInt {S : Int} (h : fp_S S) : (Int64.ofInt S).toInt = S := by
  unfold fp_S at h
  exact Int64.toInt_ofInt_of_le (by omega) (by omega)
theorem l_div {S : Int} (h : fp_S S) : FP.ddiv (FP.l2d (Int64.ofInt S)) 4620693217682128896 = e8 S := by
  have e := e8_div (a := Int64.ofInt S) (by rw [l_toInt h]; exact h)
  rw [l_toInt h] at e
  exact e
theorem d8_div (x : Int32) : FP.ddiv (FP.l2d x.toInt64) 4620693217682128896 = d8 x := by
  have e := e8_div (a := x.toInt64) (by rw [Int32.toInt_toInt64]; exact fp_S32 x)
  rw [Int32.toInt_toInt64, ← d8_eq] at e
  exact e
def m_ordinal (μ : MS) (x : Int32) : UInt64 := if noExtM μ x = true then FP.dconst0 else d8 (μ 11 (pn x))
/-- equal but for the arrays that only a running call uses -/
def ns (μ μ' : MS) : Prop := ∀ f, f ≠ 17 → f ≠ 18 → f ≠ 20 → f ≠ 21 → f ≠ 22 → f ≠ 23 → f ≠ 34 → f ≠ 35 → μ' f = μ f
theorem ns_r (μ : MS) : ns μ μ := fun _ _ _ _ _ _ _ _ _ => rfl
theorem ns_t {a b c : MS} (h1 : ns a b) (h2 : ns b c) : ns a c := fun f q1 q2 q3 q4 q5 q6 q7 q8 => (h2 f q1 q2 q3 q4 q5 q6 q7 q8).trans (h1 f q1 q2 q3 q4 q5 q6 q7 q8)
theorem ns_u {a b : MS} (h : ns a b) {f k : Nat} {v : Int32} (hf : f = 17 ∨ f = 18 ∨ f = 20 ∨ f = 21 ∨ f = 22 ∨ f = 23 ∨ f = 34 ∨ f = 35) : ns a (upd2 b f k v) := fun f' q1 q2 q3 q4 q5 q6 q7 q8 => by
  rw [upd2_f (by omega)]
  exact h f' q1 q2 q3 q4 q5 q6 q7 q8
theorem ns_live {a b : MS} (h : ns a b) (e : Nat) : liveM b e = liveM a e := by
  simp only [liveM, h 7 (by omega) (by omega) (by omega) (by omega) (by omega) (by omega) (by omega) (by omega), h 1 (by omega) (by omega) (by omega) (by omega) (by omega) (by omega) (by omega) (by omega), h 14 (by omega) (by omega) (by omega) (by omega) (by omega) (by omega) (by omega) (by omega)]
theorem ns_bef {a b : MS} (h : ns a b) (p : Int32) (e n : Nat) : m_bef b p e n = m_bef a p e n := by
  induction n with
  | zero => rfl
  | succ n ih =>
    have hb : befM b p e n = befM a p e n := by
      unfold befM
      rw [ns_live h, h 8 (by omega) (by omega) (by omega) (by omega) (by omega) (by omega) (by omega) (by omega), h 11 (by omega) (by omega) (by omega) (by omega) (by omega) (by omega) (by omega) (by omega)]
    simp only [m_bef, hb, ih]
theorem ns_ord {a b : MS} (h : ns a b) (n : Nat) (p k : Int32) : m_ord n b p k = m_ord n a p k := by
  have key : ∀ m e, m_ordL n b p k m e = m_ordL n a p k m e := by
    intro m
    induction m with
    | zero => intro e; rfl
    | succ m ih => intro e; simp only [m_ordL, ns_live h, ns_bef h, ih, h 8 (by omega) (by omega) (by omega) (by omega) (by omega) (by omega) (by omega) (by omega)]
  exact key n 0
theorem ns_pl {a b : MS} (h : ns a b) (ha : plM a) : plM b := by
  unfold plM
  rw [h 7 (by omega) (by omega) (by omega) (by omega) (by omega) (by omega) (by omega) (by omega)]
  exact ha
theorem ns_31 {a b : MS} (h : ns a b) : b 31 = a 31 := h 31 (by omega) (by omega) (by omega) (by omega) (by omega) (by omega) (by omega) (by omega)
/-- how many of n stand before e, as a number -/
def m_befN (μ : MS) (p : Int32) (e : Nat) : Nat → Nat
  | 0 => 0
  | n + 1 => if befM μ p e n = true then m_befN μ p e n + 1 else m_befN μ p e n
theorem m_bef_nI (μ : MS) (p : Int32) (e n : Nat) : m_bef μ p e n = nI (m_befN μ p e n) := by
  induction n with
  | zero => rfl
  | succ n ih =>
    simp only [m_bef, m_befN]
    split
    · rw [ih, nI_1]
    · exact ih
theorem m_befN_le (μ : MS) (p : Int32) (e n : Nat) : m_befN μ p e n ≤ n := by
  induction n with
  | zero => exact Nat.le_refl _
  | succ n ih => simp only [m_befN]; split <;> omega
theorem m_befN_lt (μ : MS) (p : Int32) (e n : Nat) (h : e < n) : m_befN μ p e n < n := by
  induction n with
  | zero => omega
  | succ n ih =>
    simp only [m_befN]
    by_cases he : e = n
    · subst he
      have := m_befN_le μ p e e
      rw [if_neg (by simp [befM])]
      omega
    · have := ih (by omega)
      split <;> omega
theorem m_ordL_spec (n : Nat) (μ : MS) (p k : Int32) : ∀ m e, m_ordL n μ p k m e = -1 ∨ ∃ e', e ≤ e' ∧ e' < e + m ∧ m_ordL n μ p k m e = nI e' ∧ liveM μ e' = true ∧ μ 8 e' = p ∧ m_bef μ p e' n = k := by
  intro m
  induction m with
  | zero => intro e; exact Or.inl rfl
  | succ m ih =>
    intro e
    simp only [m_ordL]
    split
    · rename_i h; exact Or.inr ⟨e, by omega, by omega, rfl, h⟩
    · rcases ih (e + 1) with h | ⟨e', h1, h2, h3⟩
      · exact Or.inl h
      · exact Or.inr ⟨e', by omega, by omega, h3⟩
theorem m_ord_spec (n : Nat) (hn : n ≤ 16) (μ : MS) (p : Int32) (k : Nat) (hk : k ≤ 16) (h : 0 ≤ m_ord n μ p (nI k)) : ∃ e, e < n ∧ k < n ∧ m_ord n μ p (nI k) = nI e := by
  rcases m_ordL_spec n μ p (nI k) n 0 with h1 | ⟨e, h1, h2, h3, h4, h5, h6⟩
  · exfalso
    have h' : (0 : Int32) ≤ m_ordL n μ p (nI k) n 0 := h
    rw [h1] at h'
    exact absurd h' (by decide)
  · refine ⟨e, by omega, ?_, h3⟩
    rw [m_bef_nI] at h6
    have := m_befN_lt μ p e n (by omega)
    have h7 := (nI_eq' (by omega) (by omega)).mp h6
    omega
def m_prInner (c : Nat) : Nat → Int32
  | 0 => 1
  | d + 1 => if c % (d + 2) = 0 then 0 else m_prInner c d
set_option maxRecDepth 100000 in
set_option maxHeartbeats 800000 in
theorem cM_ordered (l : Launch) (D : va_G) (cA : Nat → ClassId) {ad : Nat → Nat} (hJ : kw_J 24 ad) (μ : MS) (x1 x2 : Int32) (n : Nat) (hn : n ≤ 16) (hm9 : μ 31 0 = nI n) (hpl : plM μ) : kx_Met l yM_ordered (.code yM_ordered bM_ordered 7 (Option.some .int) :: kw_T) (kw_R 1) D (kx_tys cA) 24 ad (wM cA ad) μ [.ref (ad 0), .int x1, .int x2] (fun r9 u9 => r9 = some (.int (m_ord n μ x1 x2)) ∧ μ = u9) := by
  refine kx_of hJ (by decide +kernel) (Nat.le_of_ble_eq_true rfl) ?_
  intro p e s m args below meth c CX ls hl hP hS
  obtain ⟨hx, hb, hr, hml, hown, hts, hlk, hK, hJ1, hZ⟩ := id CX
  have hl : lv_has ls 7 [(0, .ref (ad 0)), (1, .int x1), (2, .int x2)] := hl
  refine lv_iconst (v := 0) hx hb dM_ordered_0 (by decide) ?_
  refine lv_istore_n (lv' := [(3, .int 0), (0, .ref (ad 0)), (1, .int x1), (2, .int x2)]) hx hb dM_ordered_1 rfl hl (by decide) rfl (fun ls hl => ?_)
  have loop_2 : ∀ (fu : Nat) (i : Nat), (i ≤ n) → (m_ord n μ x1 x2 = m_ordL n μ x1 x2 (n - i) i) → n - i < fu → ∀ (H : Heap) (locs : List Loc), va_P D classes (kw_W 24 ad (wM cA ad μ)) H → va_S (kw_A 24 ad s.heap.size) s.heap H locs → ∀ (ls : Array Slot), lv_has ls 7 [(0, .ref (ad 0)), (1, .int x1), (2, .int x2), (3, .int (nI i))] → W p l e (kw_R 1) s m args below meth c H locs 0 0 (kx_Q below D 24 ad (wM cA ad) (fun r9 u9 => r9 = some (.int (m_ord n μ x1 x2)) ∧ μ = u9) args s) (F0 m 2 ls []) := by
    intro fu2
    induction fu2 with
    | zero => intro i hi hq hm2; exact absurd hm2 (Nat.not_lt_zero _)
    | succ fu2 ih2 =>
      intro i hi hq hm2 H locs hP hS ls hl
      refine lv_iload_n hx hb dM_ordered_2 rfl (lv_at hl 3 rfl) ?_
      refine lv_aload_n hx hb dM_ordered_3 rfl (lv_at hl 0 rfl) ?_
      refine mM_get CX hP 7 (by omega) wl_358 rfl dM_ordered_4 ?_
      refine kx_topi (v' := nI n) (hm9) ?_
      refine lv_icmp_ge (tgt := 147) hx hb dM_ordered_7 (by decide) (fun c_7 => ?_) (fun c_7 => ?_)
      · have c_7i := c_7
        have c_7 : n ≤ i := (nI_le' (a := n) (b := i) (by omega) (by omega)).mp c_7
        refine lv_iconst (v := (-1)) hx hb dM_ordered_147 (by decide) ?_
        exact kx_iret (σ' := μ) CX hP hS dM_ordered_148 (by rw [hq, show n - i = 0 by omega]; exact ⟨rfl, rfl⟩)
      · have c_7i := c_7
        have c_7 : ¬ (n ≤ i) := fun hq9 => c_7 ((nI_le' (a := n) (b := i) (by omega) (by omega)).mpr hq9)
        refine lv_aload_n hx hb dM_ordered_10 rfl (lv_at hl 0 rfl) ?_
        refine lv_iload_n hx hb dM_ordered_11 rfl (lv_at hl 3 rfl) ?_
        refine kx_callV1 (σ1 := μ) (v := .int (bI (liveM μ i = true))) (n := 1) (As := [.int (nI i)]) (rest := []) CX hP hS hl.1 (cM_live l D cA hJ μ i (by omega) hpl) wl_516 wl_518 wp_30 wl_5 wl_519 ⟨rfl, by decide +kernel, by decide +kernel, by decide +kernel⟩ (kw_R_ok (by omega) (by omega)) ⟨rfl, rfl⟩ (k := 0) (by omega) rfl rfl rfl rfl rfl (Nat.le_of_ble_eq_true rfl) dM_ordered_12 (fun H locs hP hS => ?_)
        refine lv_if_eq (tgt := 141) hx hb dM_ordered_15 (by decide) (fun c_15 => ?_) (fun c_15 => ?_)
        · have c_15 := bI_eq0.mp c_15
          refine lv_iinc (v := nI (i + 1)) (lv' := [(3, .int (nI (i + 1))), (0, .ref (ad 0)), (1, .int x1), (2, .int x2)]) hx hb dM_ordered_141 hl (k := 3) rfl (nI_i1 i) (by decide) rfl (fun ls hl => ?_)
          refine lv_goto (tgt := 2) hx hb dM_ordered_144 (by decide) ?_
          exact ih2 (i + 1) (by omega) (by rw [hq, show n - i = n - (i + 1) + 1 by omega]; simp [m_ordL, c_15]) (by omega) _ _ hP hS ls (lv_sub hl [1, 2, 3, 0] rfl)
        · have c_15 := bI_ne0.mp c_15
          refine lv_aload_n hx hb dM_ordered_18 rfl (lv_at hl 0 rfl) ?_
          refine mM_get CX hP 9 (by omega) wl_360 rfl dM_ordered_19 ?_
          refine lv_iload_n hx hb dM_ordered_22 rfl (lv_at hl 3 rfl) ?_
          refine mA_ld CX hP 8 (by omega) (by omega) 16 rfl i (rfl) (by omega) dM_ordered_23 ?_
          refine lv_iload_n hx hb dM_ordered_24 rfl (lv_at hl 1 rfl) ?_
          refine lv_icmp_eq (tgt := 31) hx hb dM_ordered_25 (by decide) (fun c_25 => ?_) (fun c_25 => ?_)
          · skip
            refine lv_iconst (v := 0) hx hb dM_ordered_31 (by decide) ?_
            refine lv_istore (lv' := [(4, .int 0), (0, .ref (ad 0)), (1, .int x1), (2, .int x2), (3, .int (nI i))]) hx hb dM_ordered_32 hl (by decide) rfl (fun ls hl => ?_)
            refine lv_iconst (v := 0) hx hb dM_ordered_34 (by decide) ?_
            refine lv_istore (lv' := [(5, .int 0), (4, .int 0), (0, .ref (ad 0)), (1, .int x1), (2, .int x2), (3, .int (nI i))]) hx hb dM_ordered_35 hl (by decide) rfl (fun ls hl => ?_)
            have loop_37 : ∀ (fu : Nat) (f : Nat) (r : Int32), (f ≤ n) → (r = m_bef μ x1 i f) → n - f < fu → ∀ (H : Heap) (locs : List Loc), va_P D classes (kw_W 24 ad (wM cA ad μ)) H → va_S (kw_A 24 ad s.heap.size) s.heap H locs → ∀ (ls : Array Slot), lv_has ls 7 [(0, .ref (ad 0)), (1, .int x1), (2, .int x2), (3, .int (nI i)), (4, .int r), (5, .int (nI f))] → W p l e (kw_R 1) s m args below meth c H locs 0 0 (kx_Q below D 24 ad (wM cA ad) (fun r9 u9 => r9 = some (.int (m_ord n μ x1 x2)) ∧ μ = u9) args s) (F0 m 37 ls []) := by
              intro fu37
              induction fu37 with
              | zero => intro f r hf1 hq2 hm37; exact absurd hm37 (Nat.not_lt_zero _)
              | succ fu37 ih37 =>
                intro f r hf1 hq2 hm37 H locs hP hS ls hl
                refine lv_iload hx hb dM_ordered_37 (lv_at hl 5 rfl) ?_
                refine lv_aload_n hx hb dM_ordered_39 rfl (lv_at hl 0 rfl) ?_
                refine mM_get CX hP 7 (by omega) wl_358 rfl dM_ordered_40 ?_
                refine kx_topi (v' := nI n) (hm9) ?_
                refine lv_icmp_ge (tgt := 133) hx hb dM_ordered_43 (by decide) (fun c_43 => ?_) (fun c_43 => ?_)
                · have c_43i := c_43
                  have c_43 : n ≤ f := (nI_le' (a := n) (b := f) (by omega) (by omega)).mp c_43
                  refine lv_iload hx hb dM_ordered_133 (lv_at hl 4 rfl) ?_
                  refine lv_iload_n hx hb dM_ordered_135 rfl (lv_at hl 2 rfl) ?_
                  refine lv_icmp_ne (tgt := 141) hx hb dM_ordered_136 (by decide) (fun c_136 => ?_) (fun c_136 => ?_)
                  · skip
                    refine lv_iinc (v := nI (i + 1)) (lv' := [(3, .int (nI (i + 1))), (0, .ref (ad 0)), (1, .int x1), (2, .int x2), (4, .int r), (5, .int (nI f))]) hx hb dM_ordered_141 hl (k := 3) rfl (nI_i1 i) (by decide) rfl (fun ls hl => ?_)
                    refine lv_goto (tgt := 2) hx hb dM_ordered_144 (by decide) ?_
                    exact ih2 (i + 1) (by omega) (by (have hf : f = n := by omega); rw [hf] at hq2; rw [hq, show n - i = n - (i + 1) + 1 by omega]; simp [m_ordL, c_15, c_25, ← hq2, c_136]) (by omega) _ _ hP hS ls (lv_sub hl [1, 2, 3, 0] rfl)
                  · skip
                    refine lv_iload_n hx hb dM_ordered_139 rfl (lv_at hl 3 rfl) ?_
                    exact kx_iret (σ' := μ) CX hP hS dM_ordered_140 (by (have hf : f = n := by omega); rw [hf] at hq2; rw [hq, show n - i = n - (i + 1) + 1 by omega]; constructor <;> simp [m_ordL, c_15, c_25, ← hq2, c_136])
                · have c_43i := c_43
                  have c_43 : ¬ (n ≤ f) := fun hq9 => c_43 ((nI_le' (a := n) (b := f) (by omega) (by omega)).mpr hq9)
                  refine lv_aload_n hx hb dM_ordered_46 rfl (lv_at hl 0 rfl) ?_
                  refine lv_iload hx hb dM_ordered_47 (lv_at hl 5 rfl) ?_
                  refine kx_callV1 (σ1 := μ) (v := .int (bI (liveM μ f = true))) (n := 1) (As := [.int (nI f)]) (rest := []) CX hP hS hl.1 (cM_live l D cA hJ μ f (by omega) hpl) wl_516 wl_518 wp_30 wl_5 wl_519 ⟨rfl, by decide +kernel, by decide +kernel, by decide +kernel⟩ (kw_R_ok (by omega) (by omega)) ⟨rfl, rfl⟩ (k := 0) (by omega) rfl rfl rfl rfl rfl (Nat.le_of_ble_eq_true rfl) dM_ordered_49 (fun H locs hP hS => ?_)
                  refine lv_if_eq (tgt := 76) hx hb dM_ordered_52 (by decide) (fun c_52 => ?_) (fun c_52 => ?_)
                  · have c_52 := bI_eq0.mp c_52
                    refine lv_iconst (v := 0) hx hb dM_ordered_76 (by decide) ?_
                    refine lv_istore (lv' := [(6, .int 0), (0, .ref (ad 0)), (1, .int x1), (2, .int x2), (3, .int (nI i)), (4, .int r), (5, .int (nI f))]) hx hb dM_ordered_77 hl (by decide) rfl (fun ls hl => ?_)
                    refine lv_iload hx hb dM_ordered_79 (lv_at hl 0 rfl) ?_
                    refine lv_if_eq (tgt := 127) hx hb dM_ordered_81 (by decide) (fun c_81 => ?_) (fun c_81 => ?_)
                    · skip
                      refine lv_iinc (v := nI (f + 1)) (lv' := [(5, .int (nI (f + 1))), (6, .int 0), (0, .ref (ad 0)), (1, .int x1), (2, .int x2), (3, .int (nI i)), (4, .int r)]) hx hb dM_ordered_127 hl (k := 6) rfl (nI_i1 f) (by decide) rfl (fun ls hl => ?_)
                      refine lv_goto (tgt := 37) hx hb dM_ordered_130 (by decide) ?_
                      exact ih37 (f + 1) r (by omega) (by simp [m_bef, befM, hq2, c_52]) (by omega) _ _ hP hS ls (lv_sub hl [2, 3, 4, 5, 6, 0] rfl)
                    · exact absurd (by decide) c_81
                  · have c_52 := bI_ne0.mp c_52
                    refine lv_aload_n hx hb dM_ordered_55 rfl (lv_at hl 0 rfl) ?_
                    refine mM_get CX hP 9 (by omega) wl_360 rfl dM_ordered_56 ?_
                    refine lv_iload hx hb dM_ordered_59 (lv_at hl 5 rfl) ?_
                    refine mA_ld CX hP 8 (by omega) (by omega) 16 rfl f (rfl) (by omega) dM_ordered_61 ?_
                    refine lv_iload_n hx hb dM_ordered_62 rfl (lv_at hl 1 rfl) ?_
                    refine lv_icmp_ne (tgt := 76) hx hb dM_ordered_63 (by decide) (fun c_63 => ?_) (fun c_63 => ?_)
                    · skip
                      refine lv_iconst (v := 0) hx hb dM_ordered_76 (by decide) ?_
                      refine lv_istore (lv' := [(6, .int 0), (0, .ref (ad 0)), (1, .int x1), (2, .int x2), (3, .int (nI i)), (4, .int r), (5, .int (nI f))]) hx hb dM_ordered_77 hl (by decide) rfl (fun ls hl => ?_)
                      refine lv_iload hx hb dM_ordered_79 (lv_at hl 0 rfl) ?_
                      refine lv_if_eq (tgt := 127) hx hb dM_ordered_81 (by decide) (fun c_81 => ?_) (fun c_81 => ?_)
                      · skip
                        refine lv_iinc (v := nI (f + 1)) (lv' := [(5, .int (nI (f + 1))), (6, .int 0), (0, .ref (ad 0)), (1, .int x1), (2, .int x2), (3, .int (nI i)), (4, .int r)]) hx hb dM_ordered_127 hl (k := 6) rfl (nI_i1 f) (by decide) rfl (fun ls hl => ?_)
                        refine lv_goto (tgt := 37) hx hb dM_ordered_130 (by decide) ?_
                        exact ih37 (f + 1) r (by omega) (by simp [m_bef, befM, hq2, c_52, c_63]) (by omega) _ _ hP hS ls (lv_sub hl [2, 3, 4, 5, 6, 0] rfl)
                      · exact absurd (by decide) c_81
                    · skip
                      refine lv_iload hx hb dM_ordered_66 (lv_at hl 5 rfl) ?_
                      refine lv_iload_n hx hb dM_ordered_68 rfl (lv_at hl 3 rfl) ?_
                      refine lv_icmp_eq (tgt := 76) hx hb dM_ordered_69 (by decide) (fun c_69 => ?_) (fun c_69 => ?_)
                      · have c_69i := c_69
                        have c_69 : f = i := (nI_eq' (a := f) (b := i) (by omega) (by omega)).mp c_69
                        refine lv_iconst (v := 0) hx hb dM_ordered_76 (by decide) ?_
                        refine lv_istore (lv' := [(6, .int 0), (0, .ref (ad 0)), (1, .int x1), (2, .int x2), (3, .int (nI i)), (4, .int r), (5, .int (nI f))]) hx hb dM_ordered_77 hl (by decide) rfl (fun ls hl => ?_)
                        refine lv_iload hx hb dM_ordered_79 (lv_at hl 0 rfl) ?_
                        refine lv_if_eq (tgt := 127) hx hb dM_ordered_81 (by decide) (fun c_81 => ?_) (fun c_81 => ?_)
                        · skip
                          refine lv_iinc (v := nI (f + 1)) (lv' := [(5, .int (nI (f + 1))), (6, .int 0), (0, .ref (ad 0)), (1, .int x1), (2, .int x2), (3, .int (nI i)), (4, .int r)]) hx hb dM_ordered_127 hl (k := 6) rfl (nI_i1 f) (by decide) rfl (fun ls hl => ?_)
                          refine lv_goto (tgt := 37) hx hb dM_ordered_130 (by decide) ?_
                          exact ih37 (f + 1) r (by omega) (by simp [m_bef, befM, hq2, c_52, c_63, c_69]) (by omega) _ _ hP hS ls (lv_sub hl [2, 3, 4, 5, 6, 0] rfl)
                        · exact absurd (by decide) c_81
                      · have c_69i := c_69
                        have c_69 : ¬ (f = i) := fun hq9 => c_69 ((nI_eq' (a := f) (b := i) (by omega) (by omega)).mpr hq9)
                        refine lv_iconst (v := 1) hx hb dM_ordered_72 (by decide) ?_
                        refine lv_goto (tgt := 77) hx hb dM_ordered_73 (by decide) ?_
                        refine lv_istore (lv' := [(6, .int 1), (0, .ref (ad 0)), (1, .int x1), (2, .int x2), (3, .int (nI i)), (4, .int r), (5, .int (nI f))]) hx hb dM_ordered_77 hl (by decide) rfl (fun ls hl => ?_)
                        refine lv_iload hx hb dM_ordered_79 (lv_at hl 0 rfl) ?_
                        refine lv_if_eq (tgt := 127) hx hb dM_ordered_81 (by decide) (fun c_81 => ?_) (fun c_81 => ?_)
                        · exact absurd c_81 (by decide)
                        · skip
                          refine lv_aload_n hx hb dM_ordered_84 rfl (lv_at hl 1 rfl) ?_
                          refine mM_get CX hP 12 (by omega) wl_363 rfl dM_ordered_85 ?_
                          refine lv_iload hx hb dM_ordered_88 (lv_at hl 6 rfl) ?_
                          refine mA_lld CX hP f (rfl) (by omega) dM_ordered_90 ?_
                          refine lv_aload_n hx hb dM_ordered_91 rfl (lv_at hl 1 rfl) ?_
                          refine mM_get CX hP 12 (by omega) wl_363 rfl dM_ordered_92 ?_
                          refine lv_iload_n hx hb dM_ordered_95 rfl (lv_at hl 4 rfl) ?_
                          refine mA_lld CX hP i (rfl) (by omega) dM_ordered_96 ?_
                          refine W.lcmp hx hb dM_ordered_97 ?_
                          refine lv_if_lt (tgt := 124) hx hb dM_ordered_98 (by decide) (fun c_98 => ?_) (fun c_98 => ?_)
                          · skip
                            have c_98 := lcv_lt.mp c_98
                            refine lv_iinc (v := r + 1) (lv' := [(4, .int (r + 1)), (6, .int 1), (0, .ref (ad 0)), (1, .int x1), (2, .int x2), (3, .int (nI i)), (5, .int (nI f))]) hx hb dM_ordered_124 hl (k := 5) rfl (rfl) (by decide) rfl (fun ls hl => ?_)
                            refine lv_iinc (v := nI (f + 1)) (lv' := [(5, .int (nI (f + 1))), (4, .int (r + 1)), (6, .int 1), (0, .ref (ad 0)), (1, .int x1), (2, .int x2), (3, .int (nI i))]) hx hb dM_ordered_127 hl (k := 6) rfl (nI_i1 f) (by decide) rfl (fun ls hl => ?_)
                            refine lv_goto (tgt := 37) hx hb dM_ordered_130 (by decide) ?_
                            exact ih37 (f + 1) (r + 1) (by omega) (by simp [m_bef, befM, hq2, c_52, c_63, c_69, c_98]) (by omega) _ _ hP hS ls (lv_sub hl [3, 4, 5, 6, 1, 0] rfl)
                          · skip
                            have c_98 := (not_congr lcv_lt).mp c_98
                            refine lv_aload_n hx hb dM_ordered_101 rfl (lv_at hl 1 rfl) ?_
                            refine mM_get CX hP 12 (by omega) wl_363 rfl dM_ordered_102 ?_
                            refine lv_iload hx hb dM_ordered_105 (lv_at hl 6 rfl) ?_
                            refine mA_lld CX hP f (rfl) (by omega) dM_ordered_107 ?_
                            refine lv_aload_n hx hb dM_ordered_108 rfl (lv_at hl 1 rfl) ?_
                            refine mM_get CX hP 12 (by omega) wl_363 rfl dM_ordered_109 ?_
                            refine lv_iload_n hx hb dM_ordered_112 rfl (lv_at hl 4 rfl) ?_
                            refine mA_lld CX hP i (rfl) (by omega) dM_ordered_113 ?_
                            refine W.lcmp hx hb dM_ordered_114 ?_
                            refine lv_if_ne (tgt := 127) hx hb dM_ordered_115 (by decide) (fun c_115 => ?_) (fun c_115 => ?_)
                            · skip
                              have c_115 := (not_congr lcv_eq).mp c_115
                              refine lv_iinc (v := nI (f + 1)) (lv' := [(5, .int (nI (f + 1))), (6, .int 1), (0, .ref (ad 0)), (1, .int x1), (2, .int x2), (3, .int (nI i)), (4, .int r)]) hx hb dM_ordered_127 hl (k := 6) rfl (nI_i1 f) (by decide) rfl (fun ls hl => ?_)
                              refine lv_goto (tgt := 37) hx hb dM_ordered_130 (by decide) ?_
                              exact ih37 (f + 1) r (by omega) (by simp [m_bef, befM, hq2, c_52, c_63, c_69, c_98, c_115]) (by omega) _ _ hP hS ls (lv_sub hl [2, 3, 4, 5, 6, 0] rfl)
                            · skip
                              have c_115 := lcv_eq.mp c_115
                              refine lv_iload hx hb dM_ordered_118 (lv_at hl 6 rfl) ?_
                              refine lv_iload_n hx hb dM_ordered_120 rfl (lv_at hl 4 rfl) ?_
                              refine lv_icmp_ge (tgt := 127) hx hb dM_ordered_121 (by decide) (fun c_121 => ?_) (fun c_121 => ?_)
                              · have c_121i := c_121
                                have c_121 : i ≤ f := (nI_le' (a := i) (b := f) (by omega) (by omega)).mp c_121
                                refine lv_iinc (v := nI (f + 1)) (lv' := [(5, .int (nI (f + 1))), (6, .int 1), (0, .ref (ad 0)), (1, .int x1), (2, .int x2), (3, .int (nI i)), (4, .int r)]) hx hb dM_ordered_127 hl (k := 6) rfl (nI_i1 f) (by decide) rfl (fun ls hl => ?_)
                                refine lv_goto (tgt := 37) hx hb dM_ordered_130 (by decide) ?_
                                exact ih37 (f + 1) r (by omega) (by simp [m_bef, befM, hq2, c_52, c_63, c_69, c_98, c_115, c_121]) (by omega) _ _ hP hS ls (lv_sub hl [2, 3, 4, 5, 6, 0] rfl)
                              · have c_121i := c_121
                                have c_121 : ¬ (i ≤ f) := fun hq9 => c_121 ((nI_le' (a := i) (b := f) (by omega) (by omega)).mpr hq9)
                                refine lv_iinc (v := r + 1) (lv' := [(4, .int (r + 1)), (6, .int 1), (0, .ref (ad 0)), (1, .int x1), (2, .int x2), (3, .int (nI i)), (5, .int (nI f))]) hx hb dM_ordered_124 hl (k := 5) rfl (rfl) (by decide) rfl (fun ls hl => ?_)
                                refine lv_iinc (v := nI (f + 1)) (lv' := [(5, .int (nI (f + 1))), (4, .int (r + 1)), (6, .int 1), (0, .ref (ad 0)), (1, .int x1), (2, .int x2), (3, .int (nI i))]) hx hb dM_ordered_127 hl (k := 6) rfl (nI_i1 f) (by decide) rfl (fun ls hl => ?_)
                                refine lv_goto (tgt := 37) hx hb dM_ordered_130 (by decide) ?_
                                exact ih37 (f + 1) (r + 1) (by omega) (by simp [m_bef, befM, hq2, c_52, c_63, c_69, c_98, c_115, c_121]) (by omega) _ _ hP hS ls (lv_sub hl [3, 4, 5, 6, 1, 0] rfl)
            exact loop_37 ((n - 0) + 1) 0 0 (by omega) rfl (Nat.lt_succ_self _) _ _ hP hS ls (lv_sub hl [2, 3, 4, 5, 1, 0] rfl)
          · skip
            refine lv_goto (tgt := 141) hx hb dM_ordered_28 (by decide) ?_
            refine lv_iinc (v := nI (i + 1)) (lv' := [(3, .int (nI (i + 1))), (0, .ref (ad 0)), (1, .int x1), (2, .int x2)]) hx hb dM_ordered_141 hl (k := 3) rfl (nI_i1 i) (by decide) rfl (fun ls hl => ?_)
            refine lv_goto (tgt := 2) hx hb dM_ordered_144 (by decide) ?_
            exact ih2 (i + 1) (by omega) (by rw [hq, show n - i = n - (i + 1) + 1 by omega]; simp [m_ordL, c_15, c_25]) (by omega) _ _ hP hS ls (lv_sub hl [1, 2, 3, 0] rfl)
  exact loop_2 ((n - 0) + 1) 0 (by omega) rfl (Nat.lt_succ_self _) _ _ hP hS ls (lv_sub hl [1, 2, 3, 0] rfl)
set_option maxRecDepth 100000 in
set_option maxHeartbeats 800000 in
theorem cM_at (l : Launch) (D : va_G) (cA : Nat → ClassId) {ad : Nat → Nat} (hJ : kw_J 24 ad) (μ : MS) (x1 x2 : Int32) (n : Nat) (hn : n ≤ 16) (hm9 : μ 31 0 = nI n) (hpl : plM μ) : kx_Met l yM_at (.code yM_at bM_at 4 (Option.some .int) :: kw_T) (kw_R 2) D (kx_tys cA) 24 ad (wM cA ad) μ [.ref (ad 0), .int x1, .int x2] (fun r9 u9 => r9 = some (.int (m_at n μ x1 x2)) ∧ μ = u9) := by
  refine kx_of hJ (by decide +kernel) (Nat.le_of_ble_eq_true rfl) ?_
  intro p e s m args below meth c CX ls hl hP hS
  obtain ⟨hx, hb, hr, hml, hown, hts, hlk, hK, hJ1, hZ⟩ := id CX
  have hl : lv_has ls 4 [(0, .ref (ad 0)), (1, .int x1), (2, .int x2)] := hl
  refine lv_iload_n hx hb dM_at_0 rfl (lv_at hl 1 rfl) ?_
  refine lv_iconst (v := 0) hx hb dM_at_1 (by decide) ?_
  refine lv_iconst (v := 2) hx hb dM_at_2 (by decide) ?_
  refine kx_callS1 (σ1 := μ) (v := .int (bI (inR x1 0 2 = true))) (n := 3) (As := [.int x1, .int 0, .int 2]) (rest := []) CX hP hS hl.1 (cM_in l D cA hJ μ x1 0 2) wl_445 wl_446 wl_5 wl_447 ⟨by decide +kernel, by decide +kernel, by decide +kernel⟩ (kw_R_ok (by omega) (by omega)) ⟨rfl, rfl⟩ rfl rfl (Nat.le_of_ble_eq_true rfl) dM_at_3 (fun H locs hP hS => ?_)
  refine lv_if_eq (tgt := 13) hx hb dM_at_6 (by decide) (fun c_6 => ?_) (fun c_6 => ?_)
  · have c_6 := bI_eq0.mp c_6
    refine lv_iconst (v := (-1)) hx hb dM_at_13 (by decide) ?_
    exact kx_iret (σ' := μ) CX hP hS dM_at_14 (by constructor <;> simp [bI, c_6, m_at])
  · have c_6 := bI_ne0.mp c_6
    refine lv_iload_n hx hb dM_at_9 rfl (lv_at hl 2 rfl) ?_
    refine lv_if_ge (tgt := 15) hx hb dM_at_10 (by decide) (fun c_10 => ?_) (fun c_10 => ?_)
    · skip
      refine lv_aload_n hx hb dM_at_15 rfl (lv_at hl 0 rfl) ?_
      refine lv_iload_n hx hb dM_at_16 rfl (lv_at hl 1 rfl) ?_
      refine lv_iload_n hx hb dM_at_17 rfl (lv_at hl 2 rfl) ?_
      refine kx_callV1 (σ1 := μ) (v := .int (m_ord n μ x1 x2)) (n := 2) (As := [.int x1, .int x2]) (rest := []) CX hP hS hl.1 (cM_ordered l D cA hJ μ x1 x2 n hn hm9 hpl) wl_512 wl_514 wp_29 wl_5 wl_515 ⟨rfl, by decide +kernel, by decide +kernel, by decide +kernel⟩ (kw_R_ok (by omega) (by omega)) ⟨rfl, rfl⟩ (k := 0) (by omega) rfl rfl rfl rfl rfl (Nat.le_of_ble_eq_true rfl) dM_at_18 (fun H locs hP hS => ?_)
      refine lv_istore_n (lv' := [(3, .int (m_ord n μ x1 x2)), (0, .ref (ad 0)), (1, .int x1), (2, .int x2)]) hx hb dM_at_21 rfl hl (by decide) rfl (fun ls hl => ?_)
      refine lv_iload_n hx hb dM_at_22 rfl (lv_at hl 0 rfl) ?_
      refine lv_if_ge (tgt := 30) hx hb dM_at_23 (by decide) (fun c_23 => ?_) (fun c_23 => ?_)
      · skip
        refine lv_iload_n hx hb dM_at_30 rfl (lv_at hl 0 rfl) ?_
        exact kx_iret (σ' := μ) CX hP hS dM_at_31 (by constructor <;> simp [bI, c_6, c_10, c_23, m_at])
      · skip
        refine lv_iconst (v := (-1)) hx hb dM_at_26 (by decide) ?_
        refine lv_goto (tgt := 31) hx hb dM_at_27 (by decide) ?_
        exact kx_iret (σ' := μ) CX hP hS dM_at_31 (by constructor <;> simp [bI, c_6, c_10, c_23, m_at])
    · skip
      refine lv_iconst (v := (-1)) hx hb dM_at_13 (by decide) ?_
      exact kx_iret (σ' := μ) CX hP hS dM_at_14 (by constructor <;> simp [bI, c_6, c_10, m_at])
set_option maxRecDepth 100000 in
set_option maxHeartbeats 800000 in
theorem cM_weight (l : Launch) (D : va_G) (cA : Nat → ClassId) {ad : Nat → Nat} (hJ : kw_J 24 ad) (μ : MS) (x1 : Int32) (n : Nat) (hn : n ≤ 16) (hm9 : μ 31 0 = nI n) (hpl : plM μ) : kx_Met l yM_weight (.code yM_weight bM_weight 5 (Option.some .double) :: kw_T) (kw_R 1) D (kx_tys cA) 24 ad (wM cA ad) μ [.ref (ad 0), .int x1] (fun r9 u9 => r9 = some (.double (e8 (m_wS μ x1 n))) ∧ μ = u9) := by
  refine kx_of hJ (by decide +kernel) (Nat.le_of_ble_eq_true rfl) ?_
  intro p e s m args below meth c CX ls hl hP hS
  obtain ⟨hx, hb, hr, hml, hown, hts, hlk, hK, hJ1, hZ⟩ := id CX
  have hl : lv_has ls 5 [(0, .ref (ad 0)), (1, .int x1)] := hl
  refine lv_lconst (v := 0) hx hb dM_weight_0 (by decide) ?_
  refine kx_topl (v' := Int64.ofInt 0) (rfl) ?_
  refine lv_lstore_n (lv' := [(2, .long (Int64.ofInt 0)), (0, .ref (ad 0)), (1, .int x1)]) hx hb dM_weight_1 rfl hl (by decide) rfl (fun ls hl => ?_)
  refine lv_iconst (v := 0) hx hb dM_weight_2 (by decide) ?_
  refine lv_istore (lv' := [(4, .int 0), (2, .long (Int64.ofInt 0)), (0, .ref (ad 0)), (1, .int x1)]) hx hb dM_weight_3 hl (by decide) rfl (fun ls hl => ?_)
  have loop_5 : ∀ (fu : Nat) (i : Nat) (S : Int), (i ≤ n) → (S.natAbs ≤ i * 2147483648) → (S = m_wS μ x1 i) → n - i < fu → ∀ (H : Heap) (locs : List Loc), va_P D classes (kw_W 24 ad (wM cA ad μ)) H → va_S (kw_A 24 ad s.heap.size) s.heap H locs → ∀ (ls : Array Slot), lv_has ls 5 [(0, .ref (ad 0)), (1, .int x1), (2, .long (Int64.ofInt S)), (4, .int (nI i))] → W p l e (kw_R 1) s m args below meth c H locs 0 0 (kx_Q below D 24 ad (wM cA ad) (fun r9 u9 => r9 = some (.double (e8 (m_wS μ x1 n))) ∧ μ = u9) args s) (F0 m 5 ls []) := by
    intro fu5
    induction fu5 with
    | zero => intro i S hi hbd hq hm5; exact absurd hm5 (Nat.not_lt_zero _)
    | succ fu5 ih5 =>
      intro i S hi hbd hq hm5 H locs hP hS ls hl
      refine lv_iload hx hb dM_weight_5 (lv_at hl 3 rfl) ?_
      refine lv_aload_n hx hb dM_weight_7 rfl (lv_at hl 0 rfl) ?_
      refine mM_get CX hP 7 (by omega) wl_358 rfl dM_weight_8 ?_
      refine kx_topi (v' := nI n) (hm9) ?_
      refine lv_icmp_ge (tgt := 50) hx hb dM_weight_11 (by decide) (fun c_11 => ?_) (fun c_11 => ?_)
      · have c_11i := c_11
        have c_11 : n ≤ i := (nI_le' (a := n) (b := i) (by omega) (by omega)).mp c_11
        refine lv_lload_n hx hb dM_weight_50 rfl (lv_at hl 2 rfl) ?_
        refine lv_l2d hx hb dM_weight_51 ?_
        refine lv_ldc2d (v := 4620693217682128896) hx hb hown (hts _ wl_471) dM_weight_52 ?_
        refine lv_ddiv hx hb dM_weight_55 (by rw [l_div (fp_sum hbd (by omega))]; exact e8_vf (fp_sum hbd (by omega))) ?_
        exact kx_dret (σ' := μ) CX hP hS dM_weight_56 (by (have hin : i = n := by omega); subst hin; rw [l_div (fp_sum hbd (by omega)), hq]; exact ⟨rfl, rfl⟩)
      · have c_11i := c_11
        have c_11 : ¬ (n ≤ i) := fun hq9 => c_11 ((nI_le' (a := n) (b := i) (by omega) (by omega)).mpr hq9)
        refine lv_aload_n hx hb dM_weight_14 rfl (lv_at hl 0 rfl) ?_
        refine lv_iload hx hb dM_weight_15 (lv_at hl 3 rfl) ?_
        refine kx_callV1 (σ1 := μ) (v := .int (bI (liveM μ i = true))) (n := 1) (As := [.int (nI i)]) (rest := []) CX hP hS hl.1 (cM_live l D cA hJ μ i (by omega) hpl) wl_516 wl_518 wp_30 wl_5 wl_519 ⟨rfl, by decide +kernel, by decide +kernel, by decide +kernel⟩ (kw_R_ok (by omega) (by omega)) ⟨rfl, rfl⟩ (k := 0) (by omega) rfl rfl rfl rfl rfl (Nat.le_of_ble_eq_true rfl) dM_weight_17 (fun H locs hP hS => ?_)
        refine lv_if_eq (tgt := 44) hx hb dM_weight_20 (by decide) (fun c_20 => ?_) (fun c_20 => ?_)
        · have c_20 := bI_eq0.mp c_20
          refine lv_iinc (v := nI (i + 1)) (lv' := [(4, .int (nI (i + 1))), (0, .ref (ad 0)), (1, .int x1), (2, .long (Int64.ofInt S))]) hx hb dM_weight_44 hl (k := 3) rfl (nI_i1 i) (by decide) rfl (fun ls hl => ?_)
          refine lv_goto (tgt := 5) hx hb dM_weight_47 (by decide) ?_
          exact ih5 (i + 1) S (by omega) (Nat.le_trans hbd (Nat.mul_le_mul_right _ (Nat.le_succ i))) (by simp [m_wS, hq, c_20]) (by omega) _ _ hP hS ls (lv_sub hl [1, 2, 3, 0] rfl)
        · have c_20 := bI_ne0.mp c_20
          refine lv_aload_n hx hb dM_weight_23 rfl (lv_at hl 0 rfl) ?_
          refine mM_get CX hP 9 (by omega) wl_360 rfl dM_weight_24 ?_
          refine lv_iload hx hb dM_weight_27 (lv_at hl 3 rfl) ?_
          refine mA_ld CX hP 8 (by omega) (by omega) 16 rfl i (rfl) (by omega) dM_weight_29 ?_
          refine lv_iload_n hx hb dM_weight_30 rfl (lv_at hl 1 rfl) ?_
          refine lv_icmp_ne (tgt := 44) hx hb dM_weight_31 (by decide) (fun c_31 => ?_) (fun c_31 => ?_)
          · skip
            refine lv_iinc (v := nI (i + 1)) (lv' := [(4, .int (nI (i + 1))), (0, .ref (ad 0)), (1, .int x1), (2, .long (Int64.ofInt S))]) hx hb dM_weight_44 hl (k := 3) rfl (nI_i1 i) (by decide) rfl (fun ls hl => ?_)
            refine lv_goto (tgt := 5) hx hb dM_weight_47 (by decide) ?_
            exact ih5 (i + 1) S (by omega) (Nat.le_trans hbd (Nat.mul_le_mul_right _ (Nat.le_succ i))) (by simp [m_wS, hq, c_20, c_31]) (by omega) _ _ hP hS ls (lv_sub hl [1, 2, 3, 0] rfl)
          · skip
            refine lv_lload_n hx hb dM_weight_34 rfl (lv_at hl 2 rfl) ?_
            refine lv_aload_n hx hb dM_weight_35 rfl (lv_at hl 0 rfl) ?_
            refine mM_get CX hP 12 (by omega) wl_363 rfl dM_weight_36 ?_
            refine lv_iload hx hb dM_weight_39 (lv_at hl 3 rfl) ?_
            refine mA_lld CX hP i (rfl) (by omega) dM_weight_41 ?_
            refine lv_ladd hx hb dM_weight_42 ?_
            refine kx_topl (v' := Int64.ofInt (S + (μ 11 i).toInt)) (l_add _ _) ?_
            refine lv_lstore_n (lv' := [(2, .long (Int64.ofInt (S + (μ 11 i).toInt))), (0, .ref (ad 0)), (1, .int x1), (4, .int (nI i))]) hx hb dM_weight_43 rfl hl (by decide) rfl (fun ls hl => ?_)
            refine lv_iinc (v := nI (i + 1)) (lv' := [(4, .int (nI (i + 1))), (2, .long (Int64.ofInt (S + (μ 11 i).toInt))), (0, .ref (ad 0)), (1, .int x1)]) hx hb dM_weight_44 hl (k := 3) rfl (nI_i1 i) (by decide) rfl (fun ls hl => ?_)
            refine lv_goto (tgt := 5) hx hb dM_weight_47 (by decide) ?_
            exact ih5 (i + 1) ((S + (μ 11 i).toInt)) (by omega) (fp_next _ hbd) (by simp [m_wS, hq, c_20, c_31]) (by omega) _ _ hP hS ls (lv_sub hl [2, 3, 1, 0] rfl)
  exact loop_5 ((n - 0) + 1) 0 0 (by omega) (by decide) rfl (Nat.lt_succ_self _) _ _ hP hS ls (lv_sub hl [2, 3, 1, 0] rfl)
set_option maxRecDepth 100000 in
set_option maxHeartbeats 800000 in
theorem cM_ordinal (l : Launch) (D : va_G) (cA : Nat → ClassId) {ad : Nat → Nat} (hJ : kw_J 24 ad) (μ : MS) (x1 : Int32) (n : Nat) (hn : n ≤ 16) (hm9 : μ 31 0 = nI n) : kx_Met l yM_ordinal (.code yM_ordinal bM_ordinal 2 (Option.some .double) :: kw_T) (kw_R 2) D (kx_tys cA) 24 ad (wM cA ad) μ [.ref (ad 0), .int x1] (fun r9 u9 => r9 = some (.double (m_ordinal μ x1)) ∧ μ = u9) := by
  refine kx_of hJ (by decide +kernel) (Nat.le_of_ble_eq_true rfl) ?_
  intro p e s m args below meth c CX ls hl hP hS
  obtain ⟨hx, hb, hr, hml, hown, hts, hlk, hK, hJ1, hZ⟩ := id CX
  have hl : lv_has ls 2 [(0, .ref (ad 0)), (1, .int x1)] := hl
  refine lv_aload_n hx hb dM_ordinal_0 rfl (lv_at hl 0 rfl) ?_
  refine lv_iload_n hx hb dM_ordinal_1 rfl (lv_at hl 1 rfl) ?_
  refine kx_callV1 (σ1 := μ) (v := .int (bI (noExtM μ x1 = true))) (n := 1) (As := [.int x1]) (rest := []) CX hP hS hl.1 (cM_noExtension l D cA hJ μ x1 n hn hm9) wl_547 wl_549 wp_36 wl_5 wl_550 ⟨rfl, by decide +kernel, by decide +kernel, by decide +kernel⟩ (kw_R_ok (by omega) (by omega)) ⟨rfl, rfl⟩ (k := 0) (by omega) rfl rfl rfl rfl rfl (Nat.le_of_ble_eq_true rfl) dM_ordinal_2 (fun H locs hP hS => ?_)
  refine lv_if_eq (tgt := 12) hx hb dM_ordinal_5 (by decide) (fun c_5 => ?_) (fun c_5 => ?_)
  · have c_5 := bI_eq0.mp c_5
    obtain ⟨j, hj, rfl⟩ := noExtM_of hn hm9 c_5
    have ej : pn (nI j) = j := pn_nI (by omega)
    refine lv_aload_n hx hb dM_ordinal_12 rfl (lv_at hl 0 rfl) ?_
    refine mM_get CX hP 12 (by omega) wl_363 rfl dM_ordinal_13 ?_
    refine lv_iload_n hx hb dM_ordinal_16 rfl (lv_at hl 1 rfl) ?_
    refine mA_lld CX hP j (rfl) (by omega) dM_ordinal_17 ?_
    refine lv_l2d hx hb dM_ordinal_18 ?_
    refine lv_ldc2d (v := 4620693217682128896) hx hb hown (hts _ wl_471) dM_ordinal_19 ?_
    refine lv_ddiv hx hb dM_ordinal_22 (by rw [d8_div]; exact d8_vf _) ?_
    exact kx_dret (σ' := μ) CX hP hS dM_ordinal_23 (by constructor <;> simp [bI, c_5, ej, m_ordinal, d8_div])
  · have c_5 := bI_ne0.mp c_5
    refine lv_dconst0 hx hb dM_ordinal_8 ?_
    refine lv_goto (tgt := 23) hx hb dM_ordinal_9 (by decide) ?_
    exact kx_dret (σ' := μ) CX hP hS dM_ordinal_23 (by constructor <;> simp [bI, c_5, m_ordinal, d8_div])
