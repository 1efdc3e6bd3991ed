def mb (o : Option Nat) : Int32 := match o with
  | none => -1
  | some b => nI b
def m_later (μ : MS) (n : Nat) (o : Option Nat) : Bool := match o with
  | none => true
  | some b => decide (¬ μ 6 n ≤ μ 6 b)
def m_lastL (μ : MS) (q : Nat) : Nat → Option Nat
  | 0 => none
  | n + 1 => if μ 1 n = 2 ∧ μ 19 n = 0 ∧ ¬ (μ 2 n >>> (nI q &&& 31)) &&& 1 = 0 ∧ m_later μ n (m_lastL μ q n) = true then some n else m_lastL μ q n
def m_last (μ : MS) (q : Nat) : Option Nat := m_lastL μ q 8
theorem m_lastL_lt {μ : MS} {q n b : Nat} (h : m_lastL μ q n = some b) : b < n ∧ μ 1 b = 2 ∧ μ 19 b = 0 := by
  induction n with
  | zero => simp [m_lastL] at h
  | succ n ih =>
    simp only [m_lastL] at h
    split at h
    · rename_i hc
      cases h
      exact ⟨by omega, hc.1, hc.2.1⟩
    · have := ih h
      exact ⟨by omega, this.2⟩
/-- the state behind a plugin's start: it is active -/
def m_act (v : MS) (x : Nat) : MS := m_tell (upd2 (upd2 (upd2 (upd2 v 19 x 0) 1 x 2) 30 0 (v 30 0 + 1)) 6 x (v 30 0 + 1)) (nI (10 + x))
def m_wb (v : MS) (x k : Nat) : Prop := ¬ (v 3 x >>> (nI k &&& 31)) &&& 1 = 0
def m_nb (v : MS) (x k : Nat) : Prop := ¬ (v 2 x >>> (nI k &&& 31)) &&& 1 = 0
/-- the loop of 'started' from its head, code, height and state, comes to the answer R and the state U within g rounds -/
def m_sok : Nat → Int32 → Nat → MS → Int32 → MS → Prop
  | 0, _, _, _, _, _ => False
  | _ + 1, code, 0, v, R, U => R = code ∧ U = v
  | g + 1, code, h + 1, v, R, U => ∃ x k, h < 9 ∧ x < 8 ∧ k ≤ 8 ∧ v 17 h = nI x ∧ v 18 h = nI k ∧
    ((¬ code = 0 ∨ k = 8) → ∃ v2, (code = 0 → v2 = m_act v x) ∧ (¬ code = 0 → v2 = upd2 v 19 x 0) ∧ (h = 0 → m_sok g code 0 v2 R U) ∧
      ∀ h', h = h' + 1 → ∃ xp kp, xp < 8 ∧ v2 17 h' = nI xp ∧ v2 18 h' = nI kp ∧ ((v2 3 xp >>> ((nI kp - 1) &&& 31)) &&& 1 = 0 → m_sok g code (h' + 1) v2 R U) ∧ (¬ (v2 3 xp >>> ((nI kp - 1) &&& 31)) &&& 1 = 0 → m_sok g 0 (h' + 1) v2 R U)) ∧
    (code = 0 → ¬ k = 8 →
      ((¬ m_wb v x k → ¬ m_nb v x k → m_sok g code (h + 1) (upd2 v 18 h (nI (k + 1))) R U) ∧
       (m_wb v x k → ¬ v 1 k = 1 → m_sok g code (h + 1) (upd2 v 18 h (nI (k + 1))) R U) ∧
       ((m_wb v x k ∧ v 1 k = 1) ∨ (¬ m_wb v x k ∧ m_nb v x k) →
         ((m_bs (upd2 v 18 h (nI (k + 1))) k = 1 → m_sok g code (h + 1 + 1) (upd2 (upd2 (upd2 (upd2 v 18 h (nI (k + 1))) 17 (h + 1) (nI k)) 18 (h + 1) 0) 19 k 1) R U) ∧
          (¬ m_bs (upd2 v 18 h (nI (k + 1))) k = 1 → m_wb v x k → m_sok g code (h + 1) (upd2 v 18 h (nI (k + 1))) R U) ∧
          (¬ m_bs (upd2 v 18 h (nI (k + 1))) k = 1 → ¬ m_wb v x k → m_sok g (m_bs (upd2 v 18 h (nI (k + 1))) k) (h + 1) (upd2 v 18 h (nI (k + 1))) R U)))))
def m_s0 (μ : MS) (i : Nat) : MS := upd2 (upd2 (upd2 μ 17 0 (nI i)) 18 0 0) 19 i 1
def m_stOK (μ : MS) (i : Nat) (R : Int32) (U : MS) : Prop := (m_bs μ i < 1 → R = m_bs μ i ∧ U = μ) ∧ (¬ m_bs μ i < 1 → ∃ g, m_sok g 0 1 (m_s0 μ i) R U)
/-- the loop of 'stop' -/
def m_tok : Nat → Int32 → Nat → MS → Int32 → MS → Prop
  | 0, _, _, _, _, _ => False
  | _ + 1, cnt, 0, v, R, U => R = cnt ∧ U = v
  | g + 1, cnt, h + 1, v, R, U => ∃ x, h < 9 ∧ x < 8 ∧ v 17 h = nI x ∧
    (∀ q, m_last v x = some q → m_tok g cnt (h + 1 + 1) (upd2 (upd2 v 17 (h + 1) (nI q)) 19 q 1) R U) ∧
    (m_last v x = none → m_tok g (cnt + 1) h (m_tell (upd2 (upd2 v 19 x 0) 1 x 1) (nI (20 + x))) R U)
def m_spOK (μ : MS) (x : Int32) (R : Int32) (U : MS) : Prop := (¬ (inR x 0 7 = true ∧ μ 1 (pn x) = 2) → R = -1 ∧ U = μ) ∧ (inR x 0 7 = true ∧ μ 1 (pn x) = 2 → ∃ g, m_tok g 0 1 (upd2 (upd2 μ 17 0 x) 19 (pn x) 1) R U)
theorem nI_s1 (d : Nat) : nI (d + 1) - 1 = nI d := pk_sub (a := d + 1) (b := 1) (by omega)
theorem nI_m1 (d : Nat) : nI (d + 1) + Int32.ofInt (-1) = nI d := pk_m1 d
set_option maxRecDepth 100000 in
set_option maxHeartbeats 800000 in
theorem cM_lastNeeding (l : Launch) (D : va_G) (cA : Nat → ClassId) {ad : Nat → Nat} (hJ : kw_J 24 ad) (μ : MS) (i : Nat) (hi : i < 8) : kx_Met l yM_lastNeeding (.code yM_lastNeeding bM_lastNeeding 5 (Option.some .int) :: kw_T) (kw_R 0) D (kx_tys cA) 24 ad (wM cA ad) μ [.ref (ad 0), .int (nI i)] (fun r9 u9 => r9 = some (.int (mb (m_last μ i))) ∧ μ = u9) := by
  refine kx_of hJ (by decide +kernel) (Nat.le_of_ble_eq_true rfl) ?_
  intro p e s m args below meth c CX ls hl hP hS
  obtain ⟨hx, hb, hr, hml, hown, hts, hlk, hK, hJ1, hZ⟩ := id CX
  have hl : lv_has ls 5 [(0, .ref (ad 0)), (1, .int (nI i))] := hl
  refine lv_iconst (v := (-1)) hx hb dM_lastNeeding_0 (by decide) ?_
  refine lv_istore_n (lv' := [(2, .int (-1)), (0, .ref (ad 0)), (1, .int (nI i))]) hx hb dM_lastNeeding_1 rfl hl (by decide) rfl (fun ls hl => ?_)
  refine lv_iconst (v := 0) hx hb dM_lastNeeding_2 (by decide) ?_
  refine lv_istore_n (lv' := [(3, .int 0), (2, .int (-1)), (0, .ref (ad 0)), (1, .int (nI i))]) hx hb dM_lastNeeding_3 rfl hl (by decide) rfl (fun ls hl => ?_)
  have loop_4 : ∀ (fu : Nat) (k : Nat) (o : Option Nat), (k ≤ 8) → (m_lastL μ i k = o) → 8 - k < fu → ∀ (H : Heap) (locs : List Loc), va_P D classes (kw_W 24 ad (wM cA ad μ)) H → va_S (kw_A 24 ad s.heap.size) s.heap H locs → ∀ (ls : Array Slot), lv_has ls 5 [(0, .ref (ad 0)), (1, .int (nI i)), (2, .int (mb o)), (3, .int (nI k))] → W p l e (kw_R 0) s m args below meth c H locs 0 0 (kx_Q below D 24 ad (wM cA ad) (fun r9 u9 => r9 = some (.int (mb (m_last μ i))) ∧ μ = u9) args s) (F0 m 4 ls []) := by
    intro fu4
    induction fu4 with
    | zero => intro k o hk hq hm4; exact absurd hm4 (Nat.not_lt_zero _)
    | succ fu4 ih4 =>
      intro k o hk hq hm4 H locs hP hS ls hl
      refine lv_iload_n hx hb dM_lastNeeding_4 rfl (lv_at hl 3 rfl) ?_
      refine lv_bipush (v := 8) hx hb dM_lastNeeding_5 (by decide) ?_
      refine lv_icmp_ge (tgt := 81) hx hb dM_lastNeeding_7 (by decide) (fun c_7 => ?_) (fun c_7 => ?_)
      · have c_7i := c_7
        have c_7 : 8 ≤ k := (nI_le' (a := 8) (b := k) (by omega) (by omega)).mp c_7
        refine lv_iload_n hx hb dM_lastNeeding_81 rfl (lv_at hl 2 rfl) ?_
        exact kx_iret (σ' := μ) CX hP hS dM_lastNeeding_82 (by (have h8 : k = 8 := by omega); subst h8; exact ⟨by rw [m_last, hq], rfl⟩)
      · have c_7i := c_7
        have c_7 : ¬ (8 ≤ k) := fun hq9 => c_7 ((nI_le' (a := 8) (b := k) (by omega) (by omega)).mpr hq9)
        refine lv_aload_n hx hb dM_lastNeeding_10 rfl (lv_at hl 0 rfl) ?_
        refine mM_get CX hP 0 (by omega) wl_351 rfl dM_lastNeeding_11 ?_
        refine lv_iload_n hx hb dM_lastNeeding_14 rfl (lv_at hl 3 rfl) ?_
        refine mA_ld CX hP 1 (by omega) (by omega) 8 rfl k (rfl) (by omega) dM_lastNeeding_15 ?_
        refine lv_iconst (v := 2) hx hb dM_lastNeeding_16 (by decide) ?_
        refine lv_icmp_ne (tgt := 46) hx hb dM_lastNeeding_17 (by decide) (fun c_17 => ?_) (fun c_17 => ?_)
        · skip
          refine lv_iconst (v := 0) hx hb dM_lastNeeding_46 (by decide) ?_
          refine lv_istore (lv' := [(4, .int 0), (0, .ref (ad 0)), (1, .int (nI i)), (2, .int (mb o)), (3, .int (nI k))]) hx hb dM_lastNeeding_47 hl (by decide) rfl (fun ls hl => ?_)
          refine lv_iload hx hb dM_lastNeeding_49 (lv_at hl 0 rfl) ?_
          refine lv_if_eq (tgt := 75) hx hb dM_lastNeeding_51 (by decide) (fun c_51 => ?_) (fun c_51 => ?_)
          · skip
            refine lv_iinc (v := nI (k + 1)) (lv' := [(3, .int (nI (k + 1))), (4, .int 0), (0, .ref (ad 0)), (1, .int (nI i)), (2, .int (mb o))]) hx hb dM_lastNeeding_75 hl (k := 4) rfl (nI_i1 k) (by decide) rfl (fun ls hl => ?_)
            refine lv_goto (tgt := 4) hx hb dM_lastNeeding_78 (by decide) ?_
            exact ih4 (k + 1) o (by omega) (by simp [m_lastL, m_later, hq, c_17]) (by omega) _ _ hP hS ls (lv_sub hl [2, 3, 4, 0] rfl)
          · exact absurd (by decide) c_51
        · skip
          refine lv_aload_n hx hb dM_lastNeeding_20 rfl (lv_at hl 0 rfl) ?_
          refine mM_get CX hP 22 (by omega) wl_373 rfl dM_lastNeeding_21 ?_
          refine lv_iload_n hx hb dM_lastNeeding_24 rfl (lv_at hl 3 rfl) ?_
          refine mA_zld CX hP 19 (by omega) 8 rfl k (rfl) (by omega) dM_lastNeeding_25 ?_
          refine lv_if_ne (tgt := 46) hx hb dM_lastNeeding_26 (by decide) (fun c_26 => ?_) (fun c_26 => ?_)
          · skip
            refine lv_iconst (v := 0) hx hb dM_lastNeeding_46 (by decide) ?_
            refine lv_istore (lv' := [(4, .int 0), (0, .ref (ad 0)), (1, .int (nI i)), (2, .int (mb o)), (3, .int (nI k))]) hx hb dM_lastNeeding_47 hl (by decide) rfl (fun ls hl => ?_)
            refine lv_iload hx hb dM_lastNeeding_49 (lv_at hl 0 rfl) ?_
            refine lv_if_eq (tgt := 75) hx hb dM_lastNeeding_51 (by decide) (fun c_51 => ?_) (fun c_51 => ?_)
            · skip
              refine lv_iinc (v := nI (k + 1)) (lv' := [(3, .int (nI (k + 1))), (4, .int 0), (0, .ref (ad 0)), (1, .int (nI i)), (2, .int (mb o))]) hx hb dM_lastNeeding_75 hl (k := 4) rfl (nI_i1 k) (by decide) rfl (fun ls hl => ?_)
              refine lv_goto (tgt := 4) hx hb dM_lastNeeding_78 (by decide) ?_
              exact ih4 (k + 1) o (by omega) (by simp [m_lastL, m_later, hq, c_17, c_26]) (by omega) _ _ hP hS ls (lv_sub hl [2, 3, 4, 0] rfl)
            · exact absurd (by decide) c_51
          · skip
            refine lv_aload_n hx hb dM_lastNeeding_29 rfl (lv_at hl 0 rfl) ?_
            refine mM_get CX hP 1 (by omega) wl_352 rfl dM_lastNeeding_30 ?_
            refine lv_iload_n hx hb dM_lastNeeding_33 rfl (lv_at hl 3 rfl) ?_
            refine mA_ld CX hP 2 (by omega) (by omega) 8 rfl k (rfl) (by omega) dM_lastNeeding_34 ?_
            refine lv_iload_n hx hb dM_lastNeeding_35 rfl (lv_at hl 1 rfl) ?_
            refine lv_ishr hx hb dM_lastNeeding_36 ?_
            refine lv_iconst (v := 1) hx hb dM_lastNeeding_37 (by decide) ?_
            refine lv_iand hx hb dM_lastNeeding_38 ?_
            refine lv_if_eq (tgt := 46) hx hb dM_lastNeeding_39 (by decide) (fun c_39 => ?_) (fun c_39 => ?_)
            · skip
              refine lv_iconst (v := 0) hx hb dM_lastNeeding_46 (by decide) ?_
              refine lv_istore (lv' := [(4, .int 0), (0, .ref (ad 0)), (1, .int (nI i)), (2, .int (mb o)), (3, .int (nI k))]) hx hb dM_lastNeeding_47 hl (by decide) rfl (fun ls hl => ?_)
              refine lv_iload hx hb dM_lastNeeding_49 (lv_at hl 0 rfl) ?_
              refine lv_if_eq (tgt := 75) hx hb dM_lastNeeding_51 (by decide) (fun c_51 => ?_) (fun c_51 => ?_)
              · skip
                refine lv_iinc (v := nI (k + 1)) (lv' := [(3, .int (nI (k + 1))), (4, .int 0), (0, .ref (ad 0)), (1, .int (nI i)), (2, .int (mb o))]) hx hb dM_lastNeeding_75 hl (k := 4) rfl (nI_i1 k) (by decide) rfl (fun ls hl => ?_)
                refine lv_goto (tgt := 4) hx hb dM_lastNeeding_78 (by decide) ?_
                exact ih4 (k + 1) o (by omega) (by simp [m_lastL, m_later, hq, c_17, c_26, c_39]) (by omega) _ _ hP hS ls (lv_sub hl [2, 3, 4, 0] rfl)
              · exact absurd (by decide) c_51
            · skip
              refine lv_iconst (v := 1) hx hb dM_lastNeeding_42 (by decide) ?_
              refine lv_goto (tgt := 47) hx hb dM_lastNeeding_43 (by decide) ?_
              refine lv_istore (lv' := [(4, .int 1), (0, .ref (ad 0)), (1, .int (nI i)), (2, .int (mb o)), (3, .int (nI k))]) hx hb dM_lastNeeding_47 hl (by decide) rfl (fun ls hl => ?_)
              refine lv_iload hx hb dM_lastNeeding_49 (lv_at hl 0 rfl) ?_
              refine lv_if_eq (tgt := 75) hx hb dM_lastNeeding_51 (by decide) (fun c_51 => ?_) (fun c_51 => ?_)
              · exact absurd c_51 (by decide)
              · skip
                cases o with
                | none =>
                  have hl : lv_has ls 5 [(4, .int 1), (0, .ref (ad 0)), (1, .int (nI i)), (2, .int (-1)), (3, .int (nI k))] := hl
                  refine lv_iload_n hx hb dM_lastNeeding_54 rfl (lv_at hl 3 rfl) ?_
                  refine lv_if_lt (tgt := 73) hx hb dM_lastNeeding_55 (by decide) (fun c_55 => ?_) (fun c_55 => ?_)
                  · skip
                    refine lv_iload_n hx hb dM_lastNeeding_73 rfl (lv_at hl 4 rfl) ?_
                    refine lv_istore_n (lv' := [(2, .int (nI k)), (4, .int 1), (0, .ref (ad 0)), (1, .int (nI i)), (3, .int (nI k))]) hx hb dM_lastNeeding_74 rfl hl (by decide) rfl (fun ls hl => ?_)
                    refine lv_iinc (v := nI (k + 1)) (lv' := [(3, .int (nI (k + 1))), (2, .int (nI k)), (4, .int 1), (0, .ref (ad 0)), (1, .int (nI i))]) hx hb dM_lastNeeding_75 hl (k := 4) rfl (nI_i1 k) (by decide) rfl (fun ls hl => ?_)
                    refine lv_goto (tgt := 4) hx hb dM_lastNeeding_78 (by decide) ?_
                    exact ih4 (k + 1) ((some k)) (by omega) (by simp [m_lastL, m_later, hq, c_17, c_26, c_39]) (by omega) _ _ hP hS ls (lv_sub hl [3, 4, 1, 0] rfl)
                  · exact absurd (by decide) c_55
                | some b =>
                  have hl : lv_has ls 5 [(4, .int 1), (0, .ref (ad 0)), (1, .int (nI i)), (2, .int (nI b)), (3, .int (nI k))] := hl
                  have hb8 : b < 8 := by have := (m_lastL_lt hq).1; omega
                  refine lv_iload_n hx hb dM_lastNeeding_54 rfl (lv_at hl 3 rfl) ?_
                  refine lv_if_lt (tgt := 73) hx hb dM_lastNeeding_55 (by decide) (fun c_55 => ?_) (fun c_55 => ?_)
                  · exact absurd c_55 (nI_n0 (by omega))
                  · skip
                    refine lv_aload_n hx hb dM_lastNeeding_58 rfl (lv_at hl 1 rfl) ?_
                    refine mM_get CX hP 5 (by omega) wl_356 rfl dM_lastNeeding_59 ?_
                    refine lv_iload_n hx hb dM_lastNeeding_62 rfl (lv_at hl 4 rfl) ?_
                    refine mA_ld CX hP 6 (by omega) (by omega) 8 rfl k (rfl) (by omega) dM_lastNeeding_63 ?_
                    refine lv_aload_n hx hb dM_lastNeeding_64 rfl (lv_at hl 1 rfl) ?_
                    refine mM_get CX hP 5 (by omega) wl_356 rfl dM_lastNeeding_65 ?_
                    refine lv_iload_n hx hb dM_lastNeeding_68 rfl (lv_at hl 3 rfl) ?_
                    refine mA_ld CX hP 6 (by omega) (by omega) 8 rfl b (rfl) (by omega) dM_lastNeeding_69 ?_
                    refine lv_icmp_le (tgt := 75) hx hb dM_lastNeeding_70 (by decide) (fun c_70 => ?_) (fun c_70 => ?_)
                    · skip
                      refine lv_iinc (v := nI (k + 1)) (lv' := [(3, .int (nI (k + 1))), (4, .int 1), (0, .ref (ad 0)), (1, .int (nI i)), (2, .int (nI b))]) hx hb dM_lastNeeding_75 hl (k := 4) rfl (nI_i1 k) (by decide) rfl (fun ls hl => ?_)
                      refine lv_goto (tgt := 4) hx hb dM_lastNeeding_78 (by decide) ?_
                      exact ih4 (k + 1) ((some b)) (by omega) (by simp [m_lastL, m_later, hq, c_17, c_26, c_39, c_70]) (by omega) _ _ hP hS ls (lv_sub hl [2, 3, 4, 0] rfl)
                    · skip
                      refine lv_iload_n hx hb dM_lastNeeding_73 rfl (lv_at hl 4 rfl) ?_
                      refine lv_istore_n (lv' := [(2, .int (nI k)), (4, .int 1), (0, .ref (ad 0)), (1, .int (nI i)), (3, .int (nI k))]) hx hb dM_lastNeeding_74 rfl hl (by decide) rfl (fun ls hl => ?_)
                      refine lv_iinc (v := nI (k + 1)) (lv' := [(3, .int (nI (k + 1))), (2, .int (nI k)), (4, .int 1), (0, .ref (ad 0)), (1, .int (nI i))]) hx hb dM_lastNeeding_75 hl (k := 4) rfl (nI_i1 k) (by decide) rfl (fun ls hl => ?_)
                      refine lv_goto (tgt := 4) hx hb dM_lastNeeding_78 (by decide) ?_
                      exact ih4 (k + 1) ((some k)) (by omega) (by simp [m_lastL, m_later, hq, c_17, c_26, c_39, c_70]) (by omega) _ _ hP hS ls (lv_sub hl [3, 4, 1, 0] rfl)
  exact loop_4 ((8 - 0) + 1) 0 none (by omega) rfl (Nat.lt_succ_self _) _ _ hP hS ls (lv_sub hl [2, 3, 1, 0] rfl)
set_option maxRecDepth 100000 in
set_option maxHeartbeats 800000 in
theorem cM_started (l : Launch) (D : va_G) (cA : Nat → ClassId) {ad : Nat → Nat} (hJ : kw_J 24 ad) (μ : MS) (i : Nat) (hi : i < 8) (R : Int32) (U : MS) (hst : m_stOK μ i R U) : kx_Met l yM_started (.code yM_started bM_started 8 (Option.some .int) :: kw_T) (kw_R 1) D (kx_tys cA) 24 ad (wM cA ad) μ [.ref (ad 0), .int (nI i)] (fun r9 u9 => r9 = some (.int R) ∧ U = u9) := by
  refine kx_of hJ (by decide +kernel) (Nat.le_of_ble_eq_true rfl) ?_
  intro p e s m args below meth c CX ls hl hP hS
  obtain ⟨hx, hb, hr, hml, hown, hts, hlk, hK, hJ1, hZ⟩ := id CX
  have hl : lv_has ls 8 [(0, .ref (ad 0)), (1, .int (nI i))] := hl
  refine lv_aload_n hx hb dM_started_0 rfl (lv_at hl 0 rfl) ?_
  refine lv_iload_n hx hb dM_started_1 rfl (lv_at hl 1 rfl) ?_
  refine kx_callV1 (σ1 := μ) (v := .int (m_bs μ i)) (n := 1) (As := [.int (nI i)]) (rest := []) CX hP hS hl.1 (cM_beginStart l D cA hJ μ i (by omega)) wl_480 wl_482 wp_24 wl_5 wl_483 ⟨rfl, by decide +kernel, by decide +kernel, by decide +kernel⟩ (kw_R_ok (by omega) (by omega)) ⟨rfl, rfl⟩ (k := 0) (by omega) rfl rfl rfl rfl rfl (Nat.le_of_ble_eq_true rfl) dM_started_2 (fun H locs hP hS => ?_)
  refine lv_istore_n (lv' := [(2, .int (m_bs μ i)), (0, .ref (ad 0)), (1, .int (nI i))]) hx hb dM_started_5 rfl hl (by decide) rfl (fun ls hl => ?_)
  refine lv_iload_n hx hb dM_started_6 rfl (lv_at hl 0 rfl) ?_
  refine lv_iconst (v := 1) hx hb dM_started_7 (by decide) ?_
  refine lv_icmp_ge (tgt := 13) hx hb dM_started_8 (by decide) (fun c_8 => ?_) (fun c_8 => ?_)
  · skip
    obtain ⟨g0, hg0⟩ := hst.2 (by rw [← Int32.not_le]; exact not_not_intro c_8)
    refine lv_iconst (v := 1) hx hb dM_started_13 (by decide) ?_
    refine lv_istore_n (lv' := [(3, .int 1), (2, .int (m_bs μ i)), (0, .ref (ad 0)), (1, .int (nI i))]) hx hb dM_started_14 rfl hl (by decide) rfl (fun ls hl => ?_)
    refine lv_aload_n hx hb dM_started_15 rfl (lv_at hl 2 rfl) ?_
    refine mM_get CX hP 20 (by omega) wl_371 rfl dM_started_16 ?_
    refine lv_iconst (v := 0) hx hb dM_started_19 (by decide) ?_
    refine lv_iload_n hx hb dM_started_20 rfl (lv_at hl 3 rfl) ?_
    refine mA_st CX hP hS 17 (by omega) (by omega) 10 rfl 0 (rfl) (by omega) dM_started_21 (fun H locs hP hS => ?_)
    refine lv_aload_n hx hb dM_started_22 rfl (lv_at hl 2 rfl) ?_
    refine mM_get CX hP 21 (by omega) wl_372 rfl dM_started_23 ?_
    refine lv_iconst (v := 0) hx hb dM_started_26 (by decide) ?_
    refine lv_iconst (v := 0) hx hb dM_started_27 (by decide) ?_
    refine mA_st CX hP hS 18 (by omega) (by omega) 10 rfl 0 (rfl) (by omega) dM_started_28 (fun H locs hP hS => ?_)
    refine lv_aload_n hx hb dM_started_29 rfl (lv_at hl 2 rfl) ?_
    refine mM_get CX hP 22 (by omega) wl_373 rfl dM_started_30 ?_
    refine lv_iload_n hx hb dM_started_33 rfl (lv_at hl 3 rfl) ?_
    refine lv_iconst (v := 1) hx hb dM_started_34 (by decide) ?_
    refine mA_zst CX hP hS 19 (by omega) 8 rfl (by decide) i (rfl) (by omega) dM_started_35 (fun H locs hP hS => ?_)
    refine lv_iconst (v := 0) hx hb dM_started_36 (by decide) ?_
    refine lv_istore_n (lv' := [(2, .int 0), (3, .int 1), (0, .ref (ad 0)), (1, .int (nI i))]) hx hb dM_started_37 rfl hl (by decide) rfl (fun ls hl => ?_)
    have loop_38 : ∀ (fu : Nat) (g : Nat) (code : Int32) (h : Nat) (v : MS), (h ≤ 10) → (m_sok g code h v R U) → g < fu → ∀ (H : Heap) (locs : List Loc), va_P D classes (kw_W 24 ad (wM cA ad v)) H → va_S (kw_A 24 ad s.heap.size) s.heap H locs → ∀ (ls : Array Slot), lv_has ls 8 [(0, .ref (ad 0)), (1, .int (nI i)), (2, .int code), (3, .int (nI h))] → W p l e (kw_R 1) s m args below meth c H locs 0 0 (kx_Q below D 24 ad (wM cA ad) (fun r9 u9 => r9 = some (.int R) ∧ U = u9) args s) (F0 m 38 ls []) := by
      intro fu38
      induction fu38 with
      | zero => intro g code h v hhb hrun hm38; exact absurd hm38 (Nat.not_lt_zero _)
      | succ fu38 ih38 =>
        intro g code h v hhb hrun hm38 H locs hP hS ls hl
        obtain ⟨g1, rfl⟩ : ∃ g1, g = g1 + 1 := by
          cases g with
          | zero => exact hrun.elim
          | succ g1 => exact ⟨g1, rfl⟩
        refine lv_iload_n hx hb dM_started_38 rfl (lv_at hl 3 rfl) ?_
        refine lv_if_le (tgt := 291) hx hb dM_started_39 (by decide) (fun c_39 => ?_) (fun c_39 => ?_)
        · have c_39 : h ≤ 0 := (nI_le' (a := h) (b := 0) (by omega) (by omega)).mp c_39
          refine lv_iload_n hx hb dM_started_291 rfl (lv_at hl 2 rfl) ?_
          exact kx_iret (σ' := v) CX hP hS dM_started_292 (by (obtain rfl : h = 0 := by omega); exact ⟨by rw [hrun.1], hrun.2⟩)
        · have c_39 : ¬ (h ≤ 0) := fun hq9 => c_39 ((nI_le' (a := h) (b := 0) (by omega) (by omega)).mpr hq9)
          obtain ⟨h1, rfl⟩ : ∃ h1, h = h1 + 1 := ⟨h - 1, by omega⟩
          obtain ⟨x, k, hh9, hx8, hk8, ex, ek, hpop, hnxt⟩ := hrun
          refine lv_aload_n hx hb dM_started_42 rfl (lv_at hl 0 rfl) ?_
          refine mM_get CX hP 20 (by omega) wl_371 rfl dM_started_43 ?_
          refine lv_iload_n hx hb dM_started_46 rfl (lv_at hl 3 rfl) ?_
          refine lv_iconst (v := 1) hx hb dM_started_47 (by decide) ?_
          refine lv_isub hx hb dM_started_48 ?_
          refine mA_ld CX hP 17 (by omega) (by omega) 10 rfl h1 (nI_s1 h1) (by omega) dM_started_49 ?_
          refine kx_topi (v' := nI x) (ex) ?_
          refine lv_istore (lv' := [(4, .int (nI x)), (0, .ref (ad 0)), (1, .int (nI i)), (2, .int code), (3, .int (nI (h1 + 1)))]) hx hb dM_started_50 hl (by decide) rfl (fun ls hl => ?_)
          refine lv_aload_n hx hb dM_started_52 rfl (lv_at hl 1 rfl) ?_
          refine mM_get CX hP 21 (by omega) wl_372 rfl dM_started_53 ?_
          refine lv_iload_n hx hb dM_started_56 rfl (lv_at hl 4 rfl) ?_
          refine lv_iconst (v := 1) hx hb dM_started_57 (by decide) ?_
          refine lv_isub hx hb dM_started_58 ?_
          refine mA_ld CX hP 18 (by omega) (by omega) 10 rfl h1 (nI_s1 h1) (by omega) dM_started_59 ?_
          refine kx_topi (v' := nI k) (ek) ?_
          refine lv_istore (lv' := [(5, .int (nI k)), (4, .int (nI x)), (0, .ref (ad 0)), (1, .int (nI i)), (2, .int code), (3, .int (nI (h1 + 1)))]) hx hb dM_started_60 hl (by decide) rfl (fun ls hl => ?_)
          refine lv_iload_n hx hb dM_started_62 rfl (lv_at hl 4 rfl) ?_
          refine lv_if_ne (tgt := 73) hx hb dM_started_63 (by decide) (fun c_63 => ?_) (fun c_63 => ?_)
          · skip
            obtain ⟨v2, hv2a, hv2b, hz, hs⟩ := hpop (Or.inl c_63)
            refine lv_aload_n hx hb dM_started_73 rfl (lv_at hl 2 rfl) ?_
            refine mM_get CX hP 22 (by omega) wl_373 rfl dM_started_74 ?_
            refine lv_iload hx hb dM_started_77 (lv_at hl 1 rfl) ?_
            refine lv_iconst (v := 0) hx hb dM_started_79 (by decide) ?_
            refine mA_zst CX hP hS 19 (by omega) 8 rfl (by decide) x (rfl) (by omega) dM_started_80 (fun H locs hP hS => ?_)
            refine lv_iinc (v := nI h1) (lv' := [(3, .int (nI h1)), (5, .int (nI k)), (4, .int (nI x)), (0, .ref (ad 0)), (1, .int (nI i)), (2, .int code)]) hx hb dM_started_81 hl (k := 5) rfl (nI_m1 h1) (by decide) rfl (fun ls hl => ?_)
            refine lv_iload_n hx hb dM_started_84 rfl (lv_at hl 5 rfl) ?_
            refine lv_if_ne (tgt := 126) hx hb dM_started_85 (by decide) (fun c_85 => ?_) (fun c_85 => ?_)
            · skip
              obtain rfl := hv2b c_85
              refine lv_iload_n hx hb dM_started_126 rfl (lv_at hl 0 rfl) ?_
              refine lv_if_le (tgt := 38) hx hb dM_started_127 (by decide) (fun c_127 => ?_) (fun c_127 => ?_)
              · have c_127 : h1 ≤ 0 := (nI_le' (a := h1) (b := 0) (by omega) (by omega)).mp c_127
                exact ih38 g1 code h1 (upd2 v 19 x 0) (by omega) (by (obtain rfl : h1 = 0 := by omega); exact hz rfl) (by omega) _ _ hP hS ls (lv_sub hl [3, 4, 5, 0] rfl)
              · have c_127 : ¬ (h1 ≤ 0) := fun hq9 => c_127 ((nI_le' (a := h1) (b := 0) (by omega) (by omega)).mpr hq9)
                obtain ⟨h2, rfl⟩ : ∃ h2, h1 = h2 + 1 := ⟨h1 - 1, by omega⟩
                obtain ⟨xp, kp, hxp8, exp, ekp, hq0, hq1⟩ := hs h2 rfl
                refine lv_aload_n hx hb dM_started_130 rfl (lv_at hl 3 rfl) ?_
                refine mM_get CX hP 2 (by omega) wl_353 rfl dM_started_131 ?_
                refine lv_aload_n hx hb dM_started_134 rfl (lv_at hl 3 rfl) ?_
                refine mM_get CX hP 20 (by omega) wl_371 rfl dM_started_135 ?_
                refine lv_iload_n hx hb dM_started_138 rfl (lv_at hl 0 rfl) ?_
                refine lv_iconst (v := 1) hx hb dM_started_139 (by decide) ?_
                refine lv_isub hx hb dM_started_140 ?_
                refine mA_ld CX hP 17 (by omega) (by omega) 10 rfl h2 (nI_s1 h2) (by omega) dM_started_141 ?_
                refine kx_topi (v' := v 17 h2) rfl ?_
                refine kx_topi (v' := nI xp) (exp) ?_
                refine mA_ld CX hP 3 (by omega) (by omega) 8 rfl xp (rfl) (by omega) dM_started_142 ?_
                refine kx_topi (v' := v 3 xp) rfl ?_
                refine lv_aload_n hx hb dM_started_143 rfl (lv_at hl 3 rfl) ?_
                refine mM_get CX hP 21 (by omega) wl_372 rfl dM_started_144 ?_
                refine lv_iload_n hx hb dM_started_147 rfl (lv_at hl 0 rfl) ?_
                refine lv_iconst (v := 1) hx hb dM_started_148 (by decide) ?_
                refine lv_isub hx hb dM_started_149 ?_
                refine mA_ld CX hP 18 (by omega) (by omega) 10 rfl h2 (nI_s1 h2) (by omega) dM_started_150 ?_
                refine kx_topi (v' := v 18 h2) rfl ?_
                refine kx_topi (v' := nI kp) (ekp) ?_
                refine lv_iconst (v := 1) hx hb dM_started_151 (by decide) ?_
                refine lv_isub hx hb dM_started_152 ?_
                refine lv_ishr hx hb dM_started_153 ?_
                refine lv_iconst (v := 1) hx hb dM_started_154 (by decide) ?_
                refine lv_iand hx hb dM_started_155 ?_
                refine lv_if_eq (tgt := 38) hx hb dM_started_156 (by decide) (fun c_156 => ?_) (fun c_156 => ?_)
                · skip
                  exact ih38 g1 code (h2 + 1) (upd2 v 19 x 0) (by omega) (hq0 c_156) (by omega) _ _ hP hS ls (lv_sub hl [3, 4, 5, 0] rfl)
                · skip
                  refine lv_iconst (v := 0) hx hb dM_started_159 (by decide) ?_
                  refine lv_istore_n (lv' := [(2, .int 0), (3, .int (nI (h2 + 1))), (5, .int (nI k)), (4, .int (nI x)), (0, .ref (ad 0)), (1, .int (nI i))]) hx hb dM_started_160 rfl hl (by decide) rfl (fun ls hl => ?_)
                  refine lv_goto (tgt := 38) hx hb dM_started_161 (by decide) ?_
                  exact ih38 g1 0 (h2 + 1) (upd2 v 19 x 0) (by omega) (hq1 c_156) (by omega) _ _ hP hS ls (lv_sub hl [4, 5, 0, 1] rfl)
            · skip
              refine lv_aload_n hx hb dM_started_88 rfl (lv_at hl 3 rfl) ?_
              refine mM_get CX hP 0 (by omega) wl_351 rfl dM_started_89 ?_
              refine lv_iload hx hb dM_started_92 (lv_at hl 2 rfl) ?_
              refine lv_iconst (v := 2) hx hb dM_started_94 (by decide) ?_
              refine mA_st CX hP hS 1 (by omega) (by omega) 8 rfl x (rfl) (by omega) dM_started_95 (fun H locs hP hS => ?_)
              refine lv_aload_n hx hb dM_started_96 rfl (lv_at hl 3 rfl) ?_
              refine lv_dup hx hb dM_started_97 rfl ?_
              refine mM_get CX hP 6 (by omega) wl_357 rfl dM_started_98 ?_
              refine kx_topi (v' := v 30 0) rfl ?_
              refine lv_iconst (v := 1) hx hb dM_started_101 (by decide) ?_
              refine lv_iadd hx hb dM_started_102 ?_
              refine mM_put CX hP hS 6 (by omega) 30 rfl wl_357 dM_started_103 (fun H locs hP hS => ?_)
              refine lv_aload_n hx hb dM_started_106 rfl (lv_at hl 3 rfl) ?_
              refine mM_get CX hP 5 (by omega) wl_356 rfl dM_started_107 ?_
              refine lv_iload hx hb dM_started_110 (lv_at hl 2 rfl) ?_
              refine lv_aload_n hx hb dM_started_112 rfl (lv_at hl 3 rfl) ?_
              refine mM_get CX hP 6 (by omega) wl_357 rfl dM_started_113 ?_
              refine kx_topi (v' := (v 30 0) + 1) rfl ?_
              refine mA_st CX hP hS 6 (by omega) (by omega) 8 rfl x (rfl) (by omega) dM_started_116 (fun H locs hP hS => ?_)
              refine lv_aload_n hx hb dM_started_117 rfl (lv_at hl 3 rfl) ?_
              refine lv_bipush (v := 10) hx hb dM_started_118 (by decide) ?_
              refine lv_iload hx hb dM_started_120 (lv_at hl 2 rfl) ?_
              refine lv_iadd hx hb dM_started_122 ?_
              refine kx_topi (v' := nI (10 + x)) (nI_add 10 x) ?_
              refine kx_callV0 (σ1 := m_tell (upd2 (upd2 (upd2 (upd2 v 19 x 0) 1 x 2) 30 0 ((v 30 0) + 1)) 6 x ((v 30 0) + 1)) (nI (10 + x))) (n := 1) (As := [.int (nI (10 + x))]) (rest := []) CX hP hS hl.1 (cM_tell l D cA hJ (upd2 (upd2 (upd2 (upd2 v 19 x 0) 1 x 2) 30 0 ((v 30 0) + 1)) 6 x ((v 30 0) + 1)) (nI (10 + x))) wl_484 wl_486 wp_25 wl_5 wl_487 ⟨rfl, by decide +kernel, by decide +kernel, by decide +kernel⟩ (kw_R_ok (by omega) (by omega)) ⟨rfl, rfl⟩ (k := 0) (by omega) rfl rfl rfl rfl rfl (Nat.le_of_ble_eq_true rfl) dM_started_123 (fun H locs hP hS => ?_)
              obtain rfl := hv2a c_85
              refine lv_iload_n hx hb dM_started_126 rfl (lv_at hl 0 rfl) ?_
              refine lv_if_le (tgt := 38) hx hb dM_started_127 (by decide) (fun c_127 => ?_) (fun c_127 => ?_)
              · have c_127 : h1 ≤ 0 := (nI_le' (a := h1) (b := 0) (by omega) (by omega)).mp c_127
                exact ih38 g1 code h1 (m_tell (upd2 (upd2 (upd2 (upd2 v 19 x 0) 1 x 2) 30 0 ((v 30 0) + 1)) 6 x ((v 30 0) + 1)) (nI (10 + x))) (by omega) (by (obtain rfl : h1 = 0 := by omega); exact hz rfl) (by omega) _ _ hP hS ls (lv_sub hl [3, 4, 5, 0] rfl)
              · have c_127 : ¬ (h1 ≤ 0) := fun hq9 => c_127 ((nI_le' (a := h1) (b := 0) (by omega) (by omega)).mpr hq9)
                obtain ⟨h2, rfl⟩ : ∃ h2, h1 = h2 + 1 := ⟨h1 - 1, by omega⟩
                obtain ⟨xp, kp, hxp8, exp, ekp, hq0, hq1⟩ := hs h2 rfl
                refine lv_aload_n hx hb dM_started_130 rfl (lv_at hl 3 rfl) ?_
                refine mM_get CX hP 2 (by omega) wl_353 rfl dM_started_131 ?_
                refine lv_aload_n hx hb dM_started_134 rfl (lv_at hl 3 rfl) ?_
                refine mM_get CX hP 20 (by omega) wl_371 rfl dM_started_135 ?_
                refine lv_iload_n hx hb dM_started_138 rfl (lv_at hl 0 rfl) ?_
                refine lv_iconst (v := 1) hx hb dM_started_139 (by decide) ?_
                refine lv_isub hx hb dM_started_140 ?_
                refine mA_ld CX hP 17 (by omega) (by omega) 10 rfl h2 (nI_s1 h2) (by omega) dM_started_141 ?_
                refine kx_topi (v' := nI xp) (exp) ?_
                refine mA_ld CX hP 3 (by omega) (by omega) 8 rfl xp (rfl) (by omega) dM_started_142 ?_
                refine lv_aload_n hx hb dM_started_143 rfl (lv_at hl 3 rfl) ?_
                refine mM_get CX hP 21 (by omega) wl_372 rfl dM_started_144 ?_
                refine lv_iload_n hx hb dM_started_147 rfl (lv_at hl 0 rfl) ?_
                refine lv_iconst (v := 1) hx hb dM_started_148 (by decide) ?_
                refine lv_isub hx hb dM_started_149 ?_
                refine mA_ld CX hP 18 (by omega) (by omega) 10 rfl h2 (nI_s1 h2) (by omega) dM_started_150 ?_
                refine kx_topi (v' := nI kp) (ekp) ?_
                refine lv_iconst (v := 1) hx hb dM_started_151 (by decide) ?_
                refine lv_isub hx hb dM_started_152 ?_
                refine lv_ishr hx hb dM_started_153 ?_
                refine lv_iconst (v := 1) hx hb dM_started_154 (by decide) ?_
                refine lv_iand hx hb dM_started_155 ?_
                refine lv_if_eq (tgt := 38) hx hb dM_started_156 (by decide) (fun c_156 => ?_) (fun c_156 => ?_)
                · skip
                  exact ih38 g1 code (h2 + 1) (m_tell (upd2 (upd2 (upd2 (upd2 v 19 x 0) 1 x 2) 30 0 ((v 30 0) + 1)) 6 x ((v 30 0) + 1)) (nI (10 + x))) (by omega) (hq0 c_156) (by omega) _ _ hP hS ls (lv_sub hl [3, 4, 5, 0] rfl)
                · skip
                  refine lv_iconst (v := 0) hx hb dM_started_159 (by decide) ?_
                  refine lv_istore_n (lv' := [(2, .int 0), (3, .int (nI (h2 + 1))), (5, .int (nI k)), (4, .int (nI x)), (0, .ref (ad 0)), (1, .int (nI i))]) hx hb dM_started_160 rfl hl (by decide) rfl (fun ls hl => ?_)
                  refine lv_goto (tgt := 38) hx hb dM_started_161 (by decide) ?_
                  exact ih38 g1 0 (h2 + 1) (m_tell (upd2 (upd2 (upd2 (upd2 v 19 x 0) 1 x 2) 30 0 ((v 30 0) + 1)) 6 x ((v 30 0) + 1)) (nI (10 + x))) (by omega) (hq1 c_156) (by omega) _ _ hP hS ls (lv_sub hl [4, 5, 0, 1] rfl)
          · skip
            refine lv_iload hx hb dM_started_66 (lv_at hl 0 rfl) ?_
            refine lv_bipush (v := 8) hx hb dM_started_68 (by decide) ?_
            refine lv_icmp_ne (tgt := 164) hx hb dM_started_70 (by decide) (fun c_70 => ?_) (fun c_70 => ?_)
            · have c_70i := c_70
              have c_70 : ¬ (k = 8) := fun hq9 => c_70 ((nI_eq' (a := k) (b := 8) (by omega) (by omega)).mpr hq9)
              refine lv_aload_n hx hb dM_started_164 rfl (lv_at hl 2 rfl) ?_
              refine mM_get CX hP 21 (by omega) wl_372 rfl dM_started_165 ?_
              refine lv_iload_n hx hb dM_started_168 rfl (lv_at hl 5 rfl) ?_
              refine lv_iconst (v := 1) hx hb dM_started_169 (by decide) ?_
              refine lv_isub hx hb dM_started_170 ?_
              refine lv_dup2_11 hx hb dM_started_171 rfl rfl ?_
              refine mA_ld CX hP 18 (by omega) (by omega) 10 rfl h1 (nI_s1 h1) (by omega) dM_started_172 ?_
              refine kx_topi (v' := nI k) (ek) ?_
              refine lv_iconst (v := 1) hx hb dM_started_173 (by decide) ?_
              refine lv_iadd hx hb dM_started_174 ?_
              refine kx_topi (v' := nI (k + 1)) (nI_add k 1) ?_
              refine mA_st CX hP hS 18 (by omega) (by omega) 10 rfl h1 (nI_s1 h1) (by omega) dM_started_175 (fun H locs hP hS => ?_)
              refine lv_aload_n hx hb dM_started_176 rfl (lv_at hl 2 rfl) ?_
              refine mM_get CX hP 2 (by omega) wl_353 rfl dM_started_177 ?_
              refine lv_iload hx hb dM_started_180 (lv_at hl 1 rfl) ?_
              refine mA_ld CX hP 3 (by omega) (by omega) 8 rfl x (rfl) (by omega) dM_started_182 ?_
              refine kx_topi (v' := v 3 x) rfl ?_
              refine lv_iload hx hb dM_started_183 (lv_at hl 0 rfl) ?_
              refine lv_ishr hx hb dM_started_185 ?_
              refine lv_iconst (v := 1) hx hb dM_started_186 (by decide) ?_
              refine lv_iand hx hb dM_started_187 ?_
              refine lv_if_eq (tgt := 195) hx hb dM_started_188 (by decide) (fun c_188 => ?_) (fun c_188 => ?_)
              · skip
                refine lv_iconst (v := 0) hx hb dM_started_195 (by decide) ?_
                refine lv_istore (lv' := [(6, .int 0), (5, .int (nI k)), (4, .int (nI x)), (0, .ref (ad 0)), (1, .int (nI i)), (2, .int code), (3, .int (nI (h1 + 1)))]) hx hb dM_started_196 hl (by decide) rfl (fun ls hl => ?_)
                refine lv_iload hx hb dM_started_198 (lv_at hl 0 rfl) ?_
                refine lv_if_ne (tgt := 218) hx hb dM_started_200 (by decide) (fun c_200 => ?_) (fun c_200 => ?_)
                · exact absurd (by decide) c_200
                · skip
                  refine lv_aload_n hx hb dM_started_203 rfl (lv_at hl 3 rfl) ?_
                  refine mM_get CX hP 1 (by omega) wl_352 rfl dM_started_204 ?_
                  refine lv_iload hx hb dM_started_207 (lv_at hl 2 rfl) ?_
                  refine mA_ld CX hP 2 (by omega) (by omega) 8 rfl x (rfl) (by omega) dM_started_209 ?_
                  refine kx_topi (v' := v 2 x) rfl ?_
                  refine lv_iload hx hb dM_started_210 (lv_at hl 1 rfl) ?_
                  refine lv_ishr hx hb dM_started_212 ?_
                  refine lv_iconst (v := 1) hx hb dM_started_213 (by decide) ?_
                  refine lv_iand hx hb dM_started_214 ?_
                  refine lv_if_eq (tgt := 38) hx hb dM_started_215 (by decide) (fun c_215 => ?_) (fun c_215 => ?_)
                  · skip
                    exact ih38 g1 code (h1 + 1) (upd2 v 18 h1 (nI (k + 1))) (by omega) ((hnxt c_63 c_70).1 (not_not_intro c_188) (not_not_intro c_215)) (by omega) _ _ hP hS ls (lv_sub hl [3, 4, 5, 6] rfl)
                  · skip
                    refine lv_iload hx hb dM_started_218 (lv_at hl 0 rfl) ?_
                    refine lv_if_eq (tgt := 237) hx hb dM_started_220 (by decide) (fun c_220 => ?_) (fun c_220 => ?_)
                    · skip
                      refine lv_aload_n hx hb dM_started_237 rfl (lv_at hl 3 rfl) ?_
                      refine lv_iload hx hb dM_started_238 (lv_at hl 1 rfl) ?_
                      refine kx_callV1 (σ1 := upd2 v 18 h1 (nI (k + 1))) (v := .int (m_bs (upd2 v 18 h1 (nI (k + 1))) k)) (n := 1) (As := [.int (nI k)]) (rest := []) CX hP hS hl.1 (cM_beginStart l D cA hJ (upd2 v 18 h1 (nI (k + 1))) k (by omega)) wl_480 wl_482 wp_24 wl_5 wl_483 ⟨rfl, by decide +kernel, by decide +kernel, by decide +kernel⟩ (kw_R_ok (by omega) (by omega)) ⟨rfl, rfl⟩ (k := 0) (by omega) rfl rfl rfl rfl rfl (Nat.le_of_ble_eq_true rfl) dM_started_240 (fun H locs hP hS => ?_)
                      refine lv_istore (lv' := [(7, .int (m_bs (upd2 v 18 h1 (nI (k + 1))) k)), (6, .int 0), (5, .int (nI k)), (4, .int (nI x)), (0, .ref (ad 0)), (1, .int (nI i)), (2, .int code), (3, .int (nI (h1 + 1)))]) hx hb dM_started_243 hl (by decide) rfl (fun ls hl => ?_)
                      refine lv_iload hx hb dM_started_245 (lv_at hl 0 rfl) ?_
                      refine lv_iconst (v := 1) hx hb dM_started_247 (by decide) ?_
                      refine lv_icmp_ne (tgt := 280) hx hb dM_started_248 (by decide) (fun c_248 => ?_) (fun c_248 => ?_)
                      · skip
                        refine lv_iload hx hb dM_started_280 (lv_at hl 1 rfl) ?_
                        refine lv_if_ne (tgt := 288) hx hb dM_started_282 (by decide) (fun c_282 => ?_) (fun c_282 => ?_)
                        · exact absurd (by decide) c_282
                        · skip
                          refine lv_iload hx hb dM_started_285 (lv_at hl 0 rfl) ?_
                          refine lv_istore_n (lv' := [(2, .int (m_bs (upd2 v 18 h1 (nI (k + 1))) k)), (7, .int (m_bs (upd2 v 18 h1 (nI (k + 1))) k)), (6, .int 0), (5, .int (nI k)), (4, .int (nI x)), (0, .ref (ad 0)), (1, .int (nI i)), (3, .int (nI (h1 + 1)))]) hx hb dM_started_287 rfl hl (by decide) rfl (fun ls hl => ?_)
                          refine lv_goto (tgt := 38) hx hb dM_started_288 (by decide) ?_
                          exact ih38 g1 (m_bs (upd2 v 18 h1 (nI (k + 1))) k) (h1 + 1) (upd2 v 18 h1 (nI (k + 1))) (by omega) (((hnxt c_63 c_70).2.2 (Or.inr ⟨not_not_intro c_188, c_215⟩)).2.2 c_248 (not_not_intro c_188)) (by omega) _ _ hP hS ls (lv_sub hl [5, 6, 0, 7] rfl)
                      · skip
                        refine lv_aload_n hx hb dM_started_251 rfl (lv_at hl 4 rfl) ?_
                        refine mM_get CX hP 20 (by omega) wl_371 rfl dM_started_252 ?_
                        refine lv_iload_n hx hb dM_started_255 rfl (lv_at hl 7 rfl) ?_
                        refine lv_iload hx hb dM_started_256 (lv_at hl 2 rfl) ?_
                        refine mA_st CX hP hS 17 (by omega) (by omega) 10 rfl (h1 + 1) (rfl) (by omega) dM_started_258 (fun H locs hP hS => ?_)
                        refine lv_aload_n hx hb dM_started_259 rfl (lv_at hl 4 rfl) ?_
                        refine mM_get CX hP 21 (by omega) wl_372 rfl dM_started_260 ?_
                        refine lv_iload_n hx hb dM_started_263 rfl (lv_at hl 7 rfl) ?_
                        refine lv_iconst (v := 0) hx hb dM_started_264 (by decide) ?_
                        refine mA_st CX hP hS 18 (by omega) (by omega) 10 rfl (h1 + 1) (rfl) (by omega) dM_started_265 (fun H locs hP hS => ?_)
                        refine lv_aload_n hx hb dM_started_266 rfl (lv_at hl 4 rfl) ?_
                        refine mM_get CX hP 22 (by omega) wl_373 rfl dM_started_267 ?_
                        refine lv_iload hx hb dM_started_270 (lv_at hl 2 rfl) ?_
                        refine lv_iconst (v := 1) hx hb dM_started_272 (by decide) ?_
                        refine mA_zst CX hP hS 19 (by omega) 8 rfl (by decide) k (rfl) (by omega) dM_started_273 (fun H locs hP hS => ?_)
                        refine lv_iinc (v := nI (h1 + 1 + 1)) (lv' := [(3, .int (nI (h1 + 1 + 1))), (7, .int (m_bs (upd2 v 18 h1 (nI (k + 1))) k)), (6, .int 0), (5, .int (nI k)), (4, .int (nI x)), (0, .ref (ad 0)), (1, .int (nI i)), (2, .int code)]) hx hb dM_started_274 hl (k := 7) rfl (nI_i1 (h1 + 1)) (by decide) rfl (fun ls hl => ?_)
                        refine lv_goto (tgt := 288) hx hb dM_started_277 (by decide) ?_
                        refine lv_goto (tgt := 38) hx hb dM_started_288 (by decide) ?_
                        exact ih38 g1 code (h1 + 1 + 1) (upd2 (upd2 (upd2 (upd2 v 18 h1 (nI (k + 1))) 17 (h1 + 1) (nI k)) 18 (h1 + 1) 0) 19 k 1) (by omega) (((hnxt c_63 c_70).2.2 (Or.inr ⟨not_not_intro c_188, c_215⟩)).1 c_248) (by omega) _ _ hP hS ls (lv_sub hl [5, 6, 7, 0] rfl)
                    · exact absurd (by decide) c_220
              · skip
                refine lv_iconst (v := 1) hx hb dM_started_191 (by decide) ?_
                refine lv_goto (tgt := 196) hx hb dM_started_192 (by decide) ?_
                refine lv_istore (lv' := [(6, .int 1), (5, .int (nI k)), (4, .int (nI x)), (0, .ref (ad 0)), (1, .int (nI i)), (2, .int code), (3, .int (nI (h1 + 1)))]) hx hb dM_started_196 hl (by decide) rfl (fun ls hl => ?_)
                refine lv_iload hx hb dM_started_198 (lv_at hl 0 rfl) ?_
                refine lv_if_ne (tgt := 218) hx hb dM_started_200 (by decide) (fun c_200 => ?_) (fun c_200 => ?_)
                · skip
                  refine lv_iload hx hb dM_started_218 (lv_at hl 0 rfl) ?_
                  refine lv_if_eq (tgt := 237) hx hb dM_started_220 (by decide) (fun c_220 => ?_) (fun c_220 => ?_)
                  · exact absurd c_220 (by decide)
                  · skip
                    refine lv_aload_n hx hb dM_started_223 rfl (lv_at hl 3 rfl) ?_
                    refine mM_get CX hP 0 (by omega) wl_351 rfl dM_started_224 ?_
                    refine lv_iload hx hb dM_started_227 (lv_at hl 1 rfl) ?_
                    refine mA_ld CX hP 1 (by omega) (by omega) 8 rfl k (rfl) (by omega) dM_started_229 ?_
                    refine kx_topi (v' := v 1 k) rfl ?_
                    refine lv_iconst (v := 1) hx hb dM_started_230 (by decide) ?_
                    refine lv_icmp_eq (tgt := 237) hx hb dM_started_231 (by decide) (fun c_231 => ?_) (fun c_231 => ?_)
                    · skip
                      refine lv_aload_n hx hb dM_started_237 rfl (lv_at hl 3 rfl) ?_
                      refine lv_iload hx hb dM_started_238 (lv_at hl 1 rfl) ?_
                      refine kx_callV1 (σ1 := upd2 v 18 h1 (nI (k + 1))) (v := .int (m_bs (upd2 v 18 h1 (nI (k + 1))) k)) (n := 1) (As := [.int (nI k)]) (rest := []) CX hP hS hl.1 (cM_beginStart l D cA hJ (upd2 v 18 h1 (nI (k + 1))) k (by omega)) wl_480 wl_482 wp_24 wl_5 wl_483 ⟨rfl, by decide +kernel, by decide +kernel, by decide +kernel⟩ (kw_R_ok (by omega) (by omega)) ⟨rfl, rfl⟩ (k := 0) (by omega) rfl rfl rfl rfl rfl (Nat.le_of_ble_eq_true rfl) dM_started_240 (fun H locs hP hS => ?_)
                      refine lv_istore (lv' := [(7, .int (m_bs (upd2 v 18 h1 (nI (k + 1))) k)), (6, .int 1), (5, .int (nI k)), (4, .int (nI x)), (0, .ref (ad 0)), (1, .int (nI i)), (2, .int code), (3, .int (nI (h1 + 1)))]) hx hb dM_started_243 hl (by decide) rfl (fun ls hl => ?_)
                      refine lv_iload hx hb dM_started_245 (lv_at hl 0 rfl) ?_
                      refine lv_iconst (v := 1) hx hb dM_started_247 (by decide) ?_
                      refine lv_icmp_ne (tgt := 280) hx hb dM_started_248 (by decide) (fun c_248 => ?_) (fun c_248 => ?_)
                      · skip
                        refine lv_iload hx hb dM_started_280 (lv_at hl 1 rfl) ?_
                        refine lv_if_ne (tgt := 288) hx hb dM_started_282 (by decide) (fun c_282 => ?_) (fun c_282 => ?_)
                        · skip
                          refine lv_goto (tgt := 38) hx hb dM_started_288 (by decide) ?_
                          exact ih38 g1 code (h1 + 1) (upd2 v 18 h1 (nI (k + 1))) (by omega) (((hnxt c_63 c_70).2.2 (Or.inl ⟨c_188, c_231⟩)).2.1 c_248 c_188) (by omega) _ _ hP hS ls (lv_sub hl [4, 5, 6, 7] rfl)
                        · exact absurd c_282 (by decide)
                      · skip
                        refine lv_aload_n hx hb dM_started_251 rfl (lv_at hl 4 rfl) ?_
                        refine mM_get CX hP 20 (by omega) wl_371 rfl dM_started_252 ?_
                        refine lv_iload_n hx hb dM_started_255 rfl (lv_at hl 7 rfl) ?_
                        refine lv_iload hx hb dM_started_256 (lv_at hl 2 rfl) ?_
                        refine mA_st CX hP hS 17 (by omega) (by omega) 10 rfl (h1 + 1) (rfl) (by omega) dM_started_258 (fun H locs hP hS => ?_)
                        refine lv_aload_n hx hb dM_started_259 rfl (lv_at hl 4 rfl) ?_
                        refine mM_get CX hP 21 (by omega) wl_372 rfl dM_started_260 ?_
                        refine lv_iload_n hx hb dM_started_263 rfl (lv_at hl 7 rfl) ?_
                        refine lv_iconst (v := 0) hx hb dM_started_264 (by decide) ?_
                        refine mA_st CX hP hS 18 (by omega) (by omega) 10 rfl (h1 + 1) (rfl) (by omega) dM_started_265 (fun H locs hP hS => ?_)
                        refine lv_aload_n hx hb dM_started_266 rfl (lv_at hl 4 rfl) ?_
                        refine mM_get CX hP 22 (by omega) wl_373 rfl dM_started_267 ?_
                        refine lv_iload hx hb dM_started_270 (lv_at hl 2 rfl) ?_
                        refine lv_iconst (v := 1) hx hb dM_started_272 (by decide) ?_
                        refine mA_zst CX hP hS 19 (by omega) 8 rfl (by decide) k (rfl) (by omega) dM_started_273 (fun H locs hP hS => ?_)
                        refine lv_iinc (v := nI (h1 + 1 + 1)) (lv' := [(3, .int (nI (h1 + 1 + 1))), (7, .int (m_bs (upd2 v 18 h1 (nI (k + 1))) k)), (6, .int 1), (5, .int (nI k)), (4, .int (nI x)), (0, .ref (ad 0)), (1, .int (nI i)), (2, .int code)]) hx hb dM_started_274 hl (k := 7) rfl (nI_i1 (h1 + 1)) (by decide) rfl (fun ls hl => ?_)
                        refine lv_goto (tgt := 288) hx hb dM_started_277 (by decide) ?_
                        refine lv_goto (tgt := 38) hx hb dM_started_288 (by decide) ?_
                        exact ih38 g1 code (h1 + 1 + 1) (upd2 (upd2 (upd2 (upd2 v 18 h1 (nI (k + 1))) 17 (h1 + 1) (nI k)) 18 (h1 + 1) 0) 19 k 1) (by omega) (((hnxt c_63 c_70).2.2 (Or.inl ⟨c_188, c_231⟩)).1 c_248) (by omega) _ _ hP hS ls (lv_sub hl [5, 6, 7, 0] rfl)
                    · skip
                      refine lv_goto (tgt := 38) hx hb dM_started_234 (by decide) ?_
                      exact ih38 g1 code (h1 + 1) (upd2 v 18 h1 (nI (k + 1))) (by omega) ((hnxt c_63 c_70).2.1 c_188 c_231) (by omega) _ _ hP hS ls (lv_sub hl [3, 4, 5, 6] rfl)
                · exact absurd c_200 (by decide)
            · have c_70i := c_70
              have c_70 : k = 8 := (nI_eq' (a := k) (b := 8) (by omega) (by omega)).mp c_70
              obtain ⟨v2, hv2a, hv2b, hz, hs⟩ := hpop (Or.inr c_70)
              refine lv_aload_n hx hb dM_started_73 rfl (lv_at hl 2 rfl) ?_
              refine mM_get CX hP 22 (by omega) wl_373 rfl dM_started_74 ?_
              refine lv_iload hx hb dM_started_77 (lv_at hl 1 rfl) ?_
              refine lv_iconst (v := 0) hx hb dM_started_79 (by decide) ?_
              refine mA_zst CX hP hS 19 (by omega) 8 rfl (by decide) x (rfl) (by omega) dM_started_80 (fun H locs hP hS => ?_)
              refine lv_iinc (v := nI h1) (lv' := [(3, .int (nI h1)), (5, .int (nI k)), (4, .int (nI x)), (0, .ref (ad 0)), (1, .int (nI i)), (2, .int code)]) hx hb dM_started_81 hl (k := 5) rfl (nI_m1 h1) (by decide) rfl (fun ls hl => ?_)
              refine lv_iload_n hx hb dM_started_84 rfl (lv_at hl 5 rfl) ?_
              refine lv_if_ne (tgt := 126) hx hb dM_started_85 (by decide) (fun c_85 => ?_) (fun c_85 => ?_)
              · skip
                obtain rfl := hv2b c_85
                refine lv_iload_n hx hb dM_started_126 rfl (lv_at hl 0 rfl) ?_
                refine lv_if_le (tgt := 38) hx hb dM_started_127 (by decide) (fun c_127 => ?_) (fun c_127 => ?_)
                · have c_127 : h1 ≤ 0 := (nI_le' (a := h1) (b := 0) (by omega) (by omega)).mp c_127
                  exact ih38 g1 code h1 (upd2 v 19 x 0) (by omega) (by (obtain rfl : h1 = 0 := by omega); exact hz rfl) (by omega) _ _ hP hS ls (lv_sub hl [3, 4, 5, 0] rfl)
                · have c_127 : ¬ (h1 ≤ 0) := fun hq9 => c_127 ((nI_le' (a := h1) (b := 0) (by omega) (by omega)).mpr hq9)
                  obtain ⟨h2, rfl⟩ : ∃ h2, h1 = h2 + 1 := ⟨h1 - 1, by omega⟩
                  obtain ⟨xp, kp, hxp8, exp, ekp, hq0, hq1⟩ := hs h2 rfl
                  refine lv_aload_n hx hb dM_started_130 rfl (lv_at hl 3 rfl) ?_
                  refine mM_get CX hP 2 (by omega) wl_353 rfl dM_started_131 ?_
                  refine lv_aload_n hx hb dM_started_134 rfl (lv_at hl 3 rfl) ?_
                  refine mM_get CX hP 20 (by omega) wl_371 rfl dM_started_135 ?_
                  refine lv_iload_n hx hb dM_started_138 rfl (lv_at hl 0 rfl) ?_
                  refine lv_iconst (v := 1) hx hb dM_started_139 (by decide) ?_
                  refine lv_isub hx hb dM_started_140 ?_
                  refine mA_ld CX hP 17 (by omega) (by omega) 10 rfl h2 (nI_s1 h2) (by omega) dM_started_141 ?_
                  refine kx_topi (v' := v 17 h2) rfl ?_
                  refine kx_topi (v' := nI xp) (exp) ?_
                  refine mA_ld CX hP 3 (by omega) (by omega) 8 rfl xp (rfl) (by omega) dM_started_142 ?_
                  refine kx_topi (v' := v 3 xp) rfl ?_
                  refine lv_aload_n hx hb dM_started_143 rfl (lv_at hl 3 rfl) ?_
                  refine mM_get CX hP 21 (by omega) wl_372 rfl dM_started_144 ?_
                  refine lv_iload_n hx hb dM_started_147 rfl (lv_at hl 0 rfl) ?_
                  refine lv_iconst (v := 1) hx hb dM_started_148 (by decide) ?_
                  refine lv_isub hx hb dM_started_149 ?_
                  refine mA_ld CX hP 18 (by omega) (by omega) 10 rfl h2 (nI_s1 h2) (by omega) dM_started_150 ?_
                  refine kx_topi (v' := v 18 h2) rfl ?_
                  refine kx_topi (v' := nI kp) (ekp) ?_
                  refine lv_iconst (v := 1) hx hb dM_started_151 (by decide) ?_
                  refine lv_isub hx hb dM_started_152 ?_
                  refine lv_ishr hx hb dM_started_153 ?_
                  refine lv_iconst (v := 1) hx hb dM_started_154 (by decide) ?_
                  refine lv_iand hx hb dM_started_155 ?_
                  refine lv_if_eq (tgt := 38) hx hb dM_started_156 (by decide) (fun c_156 => ?_) (fun c_156 => ?_)
                  · skip
                    exact ih38 g1 code (h2 + 1) (upd2 v 19 x 0) (by omega) (hq0 c_156) (by omega) _ _ hP hS ls (lv_sub hl [3, 4, 5, 0] rfl)
                  · skip
                    refine lv_iconst (v := 0) hx hb dM_started_159 (by decide) ?_
                    refine lv_istore_n (lv' := [(2, .int 0), (3, .int (nI (h2 + 1))), (5, .int (nI k)), (4, .int (nI x)), (0, .ref (ad 0)), (1, .int (nI i))]) hx hb dM_started_160 rfl hl (by decide) rfl (fun ls hl => ?_)
                    refine lv_goto (tgt := 38) hx hb dM_started_161 (by decide) ?_
                    exact ih38 g1 0 (h2 + 1) (upd2 v 19 x 0) (by omega) (hq1 c_156) (by omega) _ _ hP hS ls (lv_sub hl [4, 5, 0, 1] rfl)
              · skip
                refine lv_aload_n hx hb dM_started_88 rfl (lv_at hl 3 rfl) ?_
                refine mM_get CX hP 0 (by omega) wl_351 rfl dM_started_89 ?_
                refine lv_iload hx hb dM_started_92 (lv_at hl 2 rfl) ?_
                refine lv_iconst (v := 2) hx hb dM_started_94 (by decide) ?_
                refine mA_st CX hP hS 1 (by omega) (by omega) 8 rfl x (rfl) (by omega) dM_started_95 (fun H locs hP hS => ?_)
                refine lv_aload_n hx hb dM_started_96 rfl (lv_at hl 3 rfl) ?_
                refine lv_dup hx hb dM_started_97 rfl ?_
                refine mM_get CX hP 6 (by omega) wl_357 rfl dM_started_98 ?_
                refine kx_topi (v' := v 30 0) rfl ?_
                refine lv_iconst (v := 1) hx hb dM_started_101 (by decide) ?_
                refine lv_iadd hx hb dM_started_102 ?_
                refine mM_put CX hP hS 6 (by omega) 30 rfl wl_357 dM_started_103 (fun H locs hP hS => ?_)
                refine lv_aload_n hx hb dM_started_106 rfl (lv_at hl 3 rfl) ?_
                refine mM_get CX hP 5 (by omega) wl_356 rfl dM_started_107 ?_
                refine lv_iload hx hb dM_started_110 (lv_at hl 2 rfl) ?_
                refine lv_aload_n hx hb dM_started_112 rfl (lv_at hl 3 rfl) ?_
                refine mM_get CX hP 6 (by omega) wl_357 rfl dM_started_113 ?_
                refine kx_topi (v' := (v 30 0) + 1) rfl ?_
                refine mA_st CX hP hS 6 (by omega) (by omega) 8 rfl x (rfl) (by omega) dM_started_116 (fun H locs hP hS => ?_)
                refine lv_aload_n hx hb dM_started_117 rfl (lv_at hl 3 rfl) ?_
                refine lv_bipush (v := 10) hx hb dM_started_118 (by decide) ?_
                refine lv_iload hx hb dM_started_120 (lv_at hl 2 rfl) ?_
                refine lv_iadd hx hb dM_started_122 ?_
                refine kx_topi (v' := nI (10 + x)) (nI_add 10 x) ?_
                refine kx_callV0 (σ1 := m_tell (upd2 (upd2 (upd2 (upd2 v 19 x 0) 1 x 2) 30 0 ((v 30 0) + 1)) 6 x ((v 30 0) + 1)) (nI (10 + x))) (n := 1) (As := [.int (nI (10 + x))]) (rest := []) CX hP hS hl.1 (cM_tell l D cA hJ (upd2 (upd2 (upd2 (upd2 v 19 x 0) 1 x 2) 30 0 ((v 30 0) + 1)) 6 x ((v 30 0) + 1)) (nI (10 + x))) wl_484 wl_486 wp_25 wl_5 wl_487 ⟨rfl, by decide +kernel, by decide +kernel, by decide +kernel⟩ (kw_R_ok (by omega) (by omega)) ⟨rfl, rfl⟩ (k := 0) (by omega) rfl rfl rfl rfl rfl (Nat.le_of_ble_eq_true rfl) dM_started_123 (fun H locs hP hS => ?_)
                obtain rfl := hv2a c_85
                refine lv_iload_n hx hb dM_started_126 rfl (lv_at hl 0 rfl) ?_
                refine lv_if_le (tgt := 38) hx hb dM_started_127 (by decide) (fun c_127 => ?_) (fun c_127 => ?_)
                · have c_127 : h1 ≤ 0 := (nI_le' (a := h1) (b := 0) (by omega) (by omega)).mp c_127
                  exact ih38 g1 code h1 (m_tell (upd2 (upd2 (upd2 (upd2 v 19 x 0) 1 x 2) 30 0 ((v 30 0) + 1)) 6 x ((v 30 0) + 1)) (nI (10 + x))) (by omega) (by (obtain rfl : h1 = 0 := by omega); exact hz rfl) (by omega) _ _ hP hS ls (lv_sub hl [3, 4, 5, 0] rfl)
                · have c_127 : ¬ (h1 ≤ 0) := fun hq9 => c_127 ((nI_le' (a := h1) (b := 0) (by omega) (by omega)).mpr hq9)
                  obtain ⟨h2, rfl⟩ : ∃ h2, h1 = h2 + 1 := ⟨h1 - 1, by omega⟩
                  obtain ⟨xp, kp, hxp8, exp, ekp, hq0, hq1⟩ := hs h2 rfl
                  refine lv_aload_n hx hb dM_started_130 rfl (lv_at hl 3 rfl) ?_
                  refine mM_get CX hP 2 (by omega) wl_353 rfl dM_started_131 ?_
                  refine lv_aload_n hx hb dM_started_134 rfl (lv_at hl 3 rfl) ?_
                  refine mM_get CX hP 20 (by omega) wl_371 rfl dM_started_135 ?_
                  refine lv_iload_n hx hb dM_started_138 rfl (lv_at hl 0 rfl) ?_
                  refine lv_iconst (v := 1) hx hb dM_started_139 (by decide) ?_
                  refine lv_isub hx hb dM_started_140 ?_
                  refine mA_ld CX hP 17 (by omega) (by omega) 10 rfl h2 (nI_s1 h2) (by omega) dM_started_141 ?_
                  refine kx_topi (v' := nI xp) (exp) ?_
                  refine mA_ld CX hP 3 (by omega) (by omega) 8 rfl xp (rfl) (by omega) dM_started_142 ?_
                  refine lv_aload_n hx hb dM_started_143 rfl (lv_at hl 3 rfl) ?_
                  refine mM_get CX hP 21 (by omega) wl_372 rfl dM_started_144 ?_
                  refine lv_iload_n hx hb dM_started_147 rfl (lv_at hl 0 rfl) ?_
                  refine lv_iconst (v := 1) hx hb dM_started_148 (by decide) ?_
                  refine lv_isub hx hb dM_started_149 ?_
                  refine mA_ld CX hP 18 (by omega) (by omega) 10 rfl h2 (nI_s1 h2) (by omega) dM_started_150 ?_
                  refine kx_topi (v' := nI kp) (ekp) ?_
                  refine lv_iconst (v := 1) hx hb dM_started_151 (by decide) ?_
                  refine lv_isub hx hb dM_started_152 ?_
                  refine lv_ishr hx hb dM_started_153 ?_
                  refine lv_iconst (v := 1) hx hb dM_started_154 (by decide) ?_
                  refine lv_iand hx hb dM_started_155 ?_
                  refine lv_if_eq (tgt := 38) hx hb dM_started_156 (by decide) (fun c_156 => ?_) (fun c_156 => ?_)
                  · skip
                    exact ih38 g1 code (h2 + 1) (m_tell (upd2 (upd2 (upd2 (upd2 v 19 x 0) 1 x 2) 30 0 ((v 30 0) + 1)) 6 x ((v 30 0) + 1)) (nI (10 + x))) (by omega) (hq0 c_156) (by omega) _ _ hP hS ls (lv_sub hl [3, 4, 5, 0] rfl)
                  · skip
                    refine lv_iconst (v := 0) hx hb dM_started_159 (by decide) ?_
                    refine lv_istore_n (lv' := [(2, .int 0), (3, .int (nI (h2 + 1))), (5, .int (nI k)), (4, .int (nI x)), (0, .ref (ad 0)), (1, .int (nI i))]) hx hb dM_started_160 rfl hl (by decide) rfl (fun ls hl => ?_)
                    refine lv_goto (tgt := 38) hx hb dM_started_161 (by decide) ?_
                    exact ih38 g1 0 (h2 + 1) (m_tell (upd2 (upd2 (upd2 (upd2 v 19 x 0) 1 x 2) 30 0 ((v 30 0) + 1)) 6 x ((v 30 0) + 1)) (nI (10 + x))) (by omega) (hq1 c_156) (by omega) _ _ hP hS ls (lv_sub hl [4, 5, 0, 1] rfl)
    exact loop_38 (g0 + 1) g0 0 1 (upd2 (upd2 (upd2 μ 17 0 (nI i)) 18 0 0) 19 i 1) (by omega) hg0 (Nat.lt_succ_self _) _ _ hP hS ls (lv_sub hl [2, 3, 0, 1] rfl)
  · skip
    refine lv_iload_n hx hb dM_started_11 rfl (lv_at hl 0 rfl) ?_
    exact kx_iret (σ' := μ) CX hP hS dM_started_12 (by obtain ⟨h1, h2⟩ := hst.1 (by rw [← Int32.not_le]; exact c_8); exact ⟨by rw [h1], h2⟩)
set_option maxRecDepth 100000 in
set_option maxHeartbeats 800000 in
theorem cM_start (l : Launch) (D : va_G) (cA : Nat → ClassId) {ad : Nat → Nat} (hJ : kw_J 24 ad) (μ : MS) (x1 : Int32) (R : Int32) (U : MS) (hst : (inR x1 0 7 = true → m_stOK μ (pn x1) R U) ∧ (¬ inR x1 0 7 = true → R = -1 ∧ U = μ)) : kx_Met l yM_start (.code yM_start bM_start 2 (Option.some .int) :: kw_T) (kw_R 2) D (kx_tys cA) 24 ad (wM cA ad) μ [.ref (ad 0), .int x1] (fun r9 u9 => r9 = some (.int R) ∧ U = u9) := by
  refine kx_of hJ (by decide +kernel) (Nat.le_of_ble_eq_true rfl) ?_
  intro p e s m args below meth c CX ls hl hP hS
  obtain ⟨hx, hb, hr, hml, hown, hts, hlk, hK, hJ1, hZ⟩ := id CX
  have hl : lv_has ls 2 [(0, .ref (ad 0)), (1, .int x1)] := hl
  refine lv_iload_n hx hb dM_start_0 rfl (lv_at hl 1 rfl) ?_
  refine lv_iconst (v := 0) hx hb dM_start_1 (by decide) ?_
  refine lv_bipush (v := 7) hx hb dM_start_2 (by decide) ?_
  refine kx_callS1 (σ1 := μ) (v := .int (bI (inR x1 0 7 = true))) (n := 3) (As := [.int x1, .int 0, .int 7]) (rest := []) CX hP hS hl.1 (cM_in l D cA hJ μ x1 0 7) wl_445 wl_446 wl_5 wl_447 ⟨by decide +kernel, by decide +kernel, by decide +kernel⟩ (kw_R_ok (by omega) (by omega)) ⟨rfl, rfl⟩ rfl rfl (Nat.le_of_ble_eq_true rfl) dM_start_4 (fun H locs hP hS => ?_)
  refine lv_if_eq (tgt := 18) hx hb dM_start_7 (by decide) (fun c_7 => ?_) (fun c_7 => ?_)
  · have c_7 := bI_eq0.mp c_7
    refine lv_iconst (v := (-1)) hx hb dM_start_18 (by decide) ?_
    exact kx_iret (σ' := μ) CX hP hS dM_start_19 (by obtain ⟨h1, h2⟩ := hst.2 c_7; exact ⟨by rw [h1], h2⟩)
  · have c_7 := bI_ne0.mp c_7
    obtain ⟨j, hj, rfl⟩ := inR07_of c_7
    have ej : pn (nI j) = j := pn_nI (by omega)
    refine lv_aload_n hx hb dM_start_10 rfl (lv_at hl 0 rfl) ?_
    refine lv_iload_n hx hb dM_start_11 rfl (lv_at hl 1 rfl) ?_
    refine kx_callV1 (σ1 := U) (v := .int R) (n := 1) (As := [.int (nI j)]) (rest := []) CX hP hS hl.1 (cM_started l D cA hJ μ j (by omega) R U (by have q := hst.1 c_7; rw [ej] at q; exact q)) wl_476 wl_478 wp_23 wl_5 wl_479 ⟨rfl, by decide +kernel, by decide +kernel, by decide +kernel⟩ (kw_R_ok (by omega) (by omega)) ⟨rfl, rfl⟩ (k := 0) (by omega) rfl rfl rfl rfl rfl (Nat.le_of_ble_eq_true rfl) dM_start_12 (fun H locs hP hS => ?_)
    refine lv_goto (tgt := 19) hx hb dM_start_15 (by decide) ?_
    exact kx_iret (σ' := U) CX hP hS dM_start_19 (⟨rfl, rfl⟩)
set_option maxRecDepth 100000 in
set_option maxHeartbeats 800000 in
theorem cM_startAll (l : Launch) (D : va_G) (cA : Nat → ClassId) {ad : Nat → Nat} (hJ : kw_J 24 ad) (μ : MS) (ff : Nat → Int32) (SS : Nat → MS) (hS0 : SS 0 = μ) (hSS : ∀ i, i < 8 → (¬ SS i 1 i = 0 → m_stOK (SS i) i (ff i) (SS (i + 1))) ∧ (SS i 1 i = 0 → SS (i + 1) = SS i)) : kx_Met l yM_startAll (.code yM_startAll bM_startAll 3 (Option.some .int) :: kw_T) (kw_R 2) D (kx_tys cA) 24 ad (wM cA ad) μ [.ref (ad 0)] (fun r9 u9 => r9 = some (.int (m_cnt (SS 8) 8)) ∧ (SS 8) = u9) := by
  refine kx_of hJ (by decide +kernel) (Nat.le_of_ble_eq_true rfl) ?_
  intro p e s m args below meth c CX ls hl hP hS
  obtain ⟨hx, hb, hr, hml, hown, hts, hlk, hK, hJ1, hZ⟩ := id CX
  have hl : lv_has ls 3 [(0, .ref (ad 0))] := hl
  refine lv_iconst (v := 0) hx hb dM_startAll_0 (by decide) ?_
  refine lv_istore_n (lv' := [(1, .int 0), (0, .ref (ad 0))]) hx hb dM_startAll_1 rfl hl (by decide) rfl (fun ls hl => ?_)
  refine lv_iconst (v := 0) hx hb dM_startAll_2 (by decide) ?_
  refine lv_istore_n (lv' := [(2, .int 0), (1, .int 0), (0, .ref (ad 0))]) hx hb dM_startAll_3 rfl hl (by decide) rfl (fun ls hl => ?_)
  have loop_4 : ∀ (fu : Nat) (i : Nat) (v : MS) (r : Int32), (i ≤ 8) → (v = SS i) → 8 - i < fu → ∀ (H : Heap) (locs : List Loc), va_P D classes (kw_W 24 ad (wM cA ad v)) H → va_S (kw_A 24 ad s.heap.size) s.heap H locs → ∀ (ls : Array Slot), lv_has ls 3 [(0, .ref (ad 0)), (1, .int r), (2, .int (nI i))] → W p l e (kw_R 2) s m args below meth c H locs 0 0 (kx_Q below D 24 ad (wM cA ad) (fun r9 u9 => r9 = some (.int (m_cnt (SS 8) 8)) ∧ (SS 8) = u9) args s) (F0 m 4 ls []) := by
    intro fu4
    induction fu4 with
    | zero => intro i v r hi hv hm4; exact absurd hm4 (Nat.not_lt_zero _)
    | succ fu4 ih4 =>
      intro i v r hi hv hm4 H locs hP hS ls hl
      refine lv_iload_n hx hb dM_startAll_4 rfl (lv_at hl 2 rfl) ?_
      refine lv_bipush (v := 8) hx hb dM_startAll_5 (by decide) ?_
      refine lv_icmp_ge (tgt := 31) hx hb dM_startAll_7 (by decide) (fun c_7 => ?_) (fun c_7 => ?_)
      · have c_7i := c_7
        have c_7 : 8 ≤ i := (nI_le' (a := 8) (b := i) (by omega) (by omega)).mp c_7
        refine lv_aload_n hx hb dM_startAll_31 rfl (lv_at hl 0 rfl) ?_
        refine kx_callV1 (σ1 := v) (v := .int (m_cnt v 8)) (n := 0) (As := []) (rest := []) CX hP hS hl.1 (cM_active l D cA hJ v) wl_500 wl_502 wp_27 wl_5 wl_503 ⟨rfl, by decide +kernel, by decide +kernel, by decide +kernel⟩ (kw_R_ok (by omega) (by omega)) ⟨rfl, rfl⟩ (k := 0) (by omega) rfl rfl rfl rfl rfl (Nat.le_of_ble_eq_true rfl) dM_startAll_32 (fun H locs hP hS => ?_)
        exact kx_iret (σ' := v) CX hP hS dM_startAll_35 (by (have h8 : i = 8 := by omega); subst h8; rw [hv]; exact ⟨rfl, rfl⟩)
      · have c_7i := c_7
        have c_7 : ¬ (8 ≤ i) := fun hq9 => c_7 ((nI_le' (a := 8) (b := i) (by omega) (by omega)).mpr hq9)
        refine lv_aload_n hx hb dM_startAll_10 rfl (lv_at hl 0 rfl) ?_
        refine mM_get CX hP 0 (by omega) wl_351 rfl dM_startAll_11 ?_
        refine lv_iload_n hx hb dM_startAll_14 rfl (lv_at hl 2 rfl) ?_
        refine mA_ld CX hP 1 (by omega) (by omega) 8 rfl i (rfl) (by omega) dM_startAll_15 ?_
        refine lv_if_eq (tgt := 25) hx hb dM_startAll_16 (by decide) (fun c_16 => ?_) (fun c_16 => ?_)
        · skip
          refine lv_iinc (v := nI (i + 1)) (lv' := [(2, .int (nI (i + 1))), (0, .ref (ad 0)), (1, .int r)]) hx hb dM_startAll_25 hl (k := 2) rfl (nI_i1 i) (by decide) rfl (fun ls hl => ?_)
          refine lv_goto (tgt := 4) hx hb dM_startAll_28 (by decide) ?_
          exact ih4 (i + 1) v r (by omega) (by rw [hv, (hSS i (by omega)).2 (by rw [← hv]; exact c_16)]) (by omega) _ _ hP hS ls (lv_sub hl [1, 2, 0] rfl)
        · skip
          refine lv_aload_n hx hb dM_startAll_19 rfl (lv_at hl 0 rfl) ?_
          refine lv_iload_n hx hb dM_startAll_20 rfl (lv_at hl 2 rfl) ?_
          refine kx_callV1 (σ1 := (SS (i + 1))) (v := .int (ff i)) (n := 1) (As := [.int (nI i)]) (rest := []) CX hP hS hl.1 (cM_started l D cA hJ v i (by omega) (ff i) (SS (i + 1)) (by have q := (hSS i (by omega)).1 (by rw [← hv]; exact c_16); rw [← hv] at q; exact q)) wl_476 wl_478 wp_23 wl_5 wl_479 ⟨rfl, by decide +kernel, by decide +kernel, by decide +kernel⟩ (kw_R_ok (by omega) (by omega)) ⟨rfl, rfl⟩ (k := 0) (by omega) rfl rfl rfl rfl rfl (Nat.le_of_ble_eq_true rfl) dM_startAll_21 (fun H locs hP hS => ?_)
          refine lv_istore_n (lv' := [(1, .int (ff i)), (0, .ref (ad 0)), (2, .int (nI i))]) hx hb dM_startAll_24 rfl hl (by decide) rfl (fun ls hl => ?_)
          refine lv_iinc (v := nI (i + 1)) (lv' := [(2, .int (nI (i + 1))), (1, .int (ff i)), (0, .ref (ad 0))]) hx hb dM_startAll_25 hl (k := 2) rfl (nI_i1 i) (by decide) rfl (fun ls hl => ?_)
          refine lv_goto (tgt := 4) hx hb dM_startAll_28 (by decide) ?_
          exact ih4 (i + 1) ((SS (i + 1))) (ff i) (by omega) rfl (by omega) _ _ hP hS ls (lv_sub hl [2, 1, 0] rfl)
  exact loop_4 ((8 - 0) + 1) 0 μ 0 (by omega) hS0.symm (Nat.lt_succ_self _) _ _ hP hS ls (lv_sub hl [2, 1, 0] rfl)
set_option maxRecDepth 100000 in
set_option maxHeartbeats 800000 in
theorem cM_stop (l : Launch) (D : va_G) (cA : Nat → ClassId) {ad : Nat → Nat} (hJ : kw_J 24 ad) (μ : MS) (x1 : Int32) (R : Int32) (U : MS) (hst : m_spOK μ x1 R U) : kx_Met l yM_stop (.code yM_stop bM_stop 6 (Option.some .int) :: kw_T) (kw_R 2) D (kx_tys cA) 24 ad (wM cA ad) μ [.ref (ad 0), .int x1] (fun r9 u9 => r9 = some (.int R) ∧ U = u9) := by
  refine kx_of hJ (by decide +kernel) (Nat.le_of_ble_eq_true rfl) ?_
  intro p e s m args below meth c CX ls hl hP hS
  obtain ⟨hx, hb, hr, hml, hown, hts, hlk, hK, hJ1, hZ⟩ := id CX
  have hl : lv_has ls 6 [(0, .ref (ad 0)), (1, .int x1)] := hl
  refine lv_iload_n hx hb dM_stop_0 rfl (lv_at hl 1 rfl) ?_
  refine lv_iconst (v := 0) hx hb dM_stop_1 (by decide) ?_
  refine lv_bipush (v := 7) hx hb dM_stop_2 (by decide) ?_
  refine kx_callS1 (σ1 := μ) (v := .int (bI (inR x1 0 7 = true))) (n := 3) (As := [.int x1, .int 0, .int 7]) (rest := []) CX hP hS hl.1 (cM_in l D cA hJ μ x1 0 7) wl_445 wl_446 wl_5 wl_447 ⟨by decide +kernel, by decide +kernel, by decide +kernel⟩ (kw_R_ok (by omega) (by omega)) ⟨rfl, rfl⟩ rfl rfl (Nat.le_of_ble_eq_true rfl) dM_stop_4 (fun H locs hP hS => ?_)
  refine lv_if_eq (tgt := 20) hx hb dM_stop_7 (by decide) (fun c_7 => ?_) (fun c_7 => ?_)
  · have c_7 := bI_eq0.mp c_7
    refine lv_iconst (v := (-1)) hx hb dM_stop_20 (by decide) ?_
    exact kx_iret (σ' := μ) CX hP hS dM_stop_21 (by obtain ⟨h1, h2⟩ := hst.1 (by simp [c_7]); exact ⟨by rw [h1], h2⟩)
  · have c_7 := bI_ne0.mp c_7
    obtain ⟨j, hj, rfl⟩ := inR07_of c_7
    have ej : pn (nI j) = j := pn_nI (by omega)
    refine lv_aload_n hx hb dM_stop_10 rfl (lv_at hl 0 rfl) ?_
    refine mM_get CX hP 0 (by omega) wl_351 rfl dM_stop_11 ?_
    refine lv_iload_n hx hb dM_stop_14 rfl (lv_at hl 1 rfl) ?_
    refine mA_ld CX hP 1 (by omega) (by omega) 8 rfl j (rfl) (by omega) dM_stop_15 ?_
    refine lv_iconst (v := 2) hx hb dM_stop_16 (by decide) ?_
    refine lv_icmp_eq (tgt := 22) hx hb dM_stop_17 (by decide) (fun c_17 => ?_) (fun c_17 => ?_)
    · skip
      obtain ⟨g0, hg0⟩ := hst.2 ⟨c_7, by rw [ej]; exact c_17⟩
      rw [ej] at hg0
      refine lv_iconst (v := 1) hx hb dM_stop_22 (by decide) ?_
      refine lv_istore_n (lv' := [(2, .int 1), (0, .ref (ad 0)), (1, .int (nI j))]) hx hb dM_stop_23 rfl hl (by decide) rfl (fun ls hl => ?_)
      refine lv_iconst (v := 0) hx hb dM_stop_24 (by decide) ?_
      refine lv_istore_n (lv' := [(3, .int 0), (2, .int 1), (0, .ref (ad 0)), (1, .int (nI j))]) hx hb dM_stop_25 rfl hl (by decide) rfl (fun ls hl => ?_)
      refine lv_aload_n hx hb dM_stop_26 rfl (lv_at hl 2 rfl) ?_
      refine mM_get CX hP 20 (by omega) wl_371 rfl dM_stop_27 ?_
      refine lv_iconst (v := 0) hx hb dM_stop_30 (by decide) ?_
      refine lv_iload_n hx hb dM_stop_31 rfl (lv_at hl 3 rfl) ?_
      refine mA_st CX hP hS 17 (by omega) (by omega) 10 rfl 0 (rfl) (by omega) dM_stop_32 (fun H locs hP hS => ?_)
      refine lv_aload_n hx hb dM_stop_33 rfl (lv_at hl 2 rfl) ?_
      refine mM_get CX hP 22 (by omega) wl_373 rfl dM_stop_34 ?_
      refine lv_iload_n hx hb dM_stop_37 rfl (lv_at hl 3 rfl) ?_
      refine lv_iconst (v := 1) hx hb dM_stop_38 (by decide) ?_
      refine mA_zst CX hP hS 19 (by omega) 8 rfl (by decide) j (rfl) (by omega) dM_stop_39 (fun H locs hP hS => ?_)
      have loop_40 : ∀ (fu : Nat) (g : Nat) (cn : Int32) (h : Nat) (v : MS), (h ≤ 10) → (m_tok g cn h v R U) → g < fu → ∀ (H : Heap) (locs : List Loc), va_P D classes (kw_W 24 ad (wM cA ad v)) H → va_S (kw_A 24 ad s.heap.size) s.heap H locs → ∀ (ls : Array Slot), lv_has ls 6 [(0, .ref (ad 0)), (1, .int (nI j)), (2, .int (nI h)), (3, .int cn)] → W p l e (kw_R 2) s m args below meth c H locs 0 0 (kx_Q below D 24 ad (wM cA ad) (fun r9 u9 => r9 = some (.int R) ∧ U = u9) args s) (F0 m 40 ls []) := by
        intro fu40
        induction fu40 with
        | zero => intro g cn h v hhb hrun hm40; exact absurd hm40 (Nat.not_lt_zero _)
        | succ fu40 ih40 =>
          intro g cn h v hhb hrun hm40 H locs hP hS ls hl
          obtain ⟨g1, rfl⟩ : ∃ g1, g = g1 + 1 := by
            cases g with
            | zero => exact hrun.elim
            | succ g1 => exact ⟨g1, rfl⟩
          refine lv_iload_n hx hb dM_stop_40 rfl (lv_at hl 2 rfl) ?_
          refine lv_if_le (tgt := 123) hx hb dM_stop_41 (by decide) (fun c_41 => ?_) (fun c_41 => ?_)
          · have c_41 : h ≤ 0 := (nI_le' (a := h) (b := 0) (by omega) (by omega)).mp c_41
            refine lv_iload_n hx hb dM_stop_123 rfl (lv_at hl 3 rfl) ?_
            exact kx_iret (σ' := v) CX hP hS dM_stop_124 (by (obtain rfl : h = 0 := by omega); exact ⟨by rw [hrun.1], hrun.2⟩)
          · have c_41 : ¬ (h ≤ 0) := fun hq9 => c_41 ((nI_le' (a := h) (b := 0) (by omega) (by omega)).mpr hq9)
            obtain ⟨h1, rfl⟩ : ∃ h1, h = h1 + 1 := ⟨h - 1, by omega⟩
            obtain ⟨x, hh9, hx8, ex, hsm, hnn⟩ := hrun
            refine lv_aload_n hx hb dM_stop_44 rfl (lv_at hl 0 rfl) ?_
            refine mM_get CX hP 20 (by omega) wl_371 rfl dM_stop_45 ?_
            refine lv_iload_n hx hb dM_stop_48 rfl (lv_at hl 2 rfl) ?_
            refine lv_iconst (v := 1) hx hb dM_stop_49 (by decide) ?_
            refine lv_isub hx hb dM_stop_50 ?_
            refine mA_ld CX hP 17 (by omega) (by omega) 10 rfl h1 (nI_s1 h1) (by omega) dM_stop_51 ?_
            refine kx_topi (v' := nI x) (ex) ?_
            refine lv_istore (lv' := [(4, .int (nI x)), (0, .ref (ad 0)), (1, .int (nI j)), (2, .int (nI (h1 + 1))), (3, .int cn)]) hx hb dM_stop_52 hl (by decide) rfl (fun ls hl => ?_)
            refine lv_aload_n hx hb dM_stop_54 rfl (lv_at hl 1 rfl) ?_
            refine lv_iload hx hb dM_stop_55 (lv_at hl 0 rfl) ?_
            refine kx_callV1 (σ1 := v) (v := .int (mb (m_last v x))) (n := 1) (As := [.int (nI x)]) (rest := []) CX hP hS hl.1 (cM_lastNeeding l D cA hJ v x (by omega)) wl_492 wl_494 wp_26 wl_5 wl_495 ⟨rfl, by decide +kernel, by decide +kernel, by decide +kernel⟩ (kw_R_ok (by omega) (by omega)) ⟨rfl, rfl⟩ (k := 0) (by omega) rfl rfl rfl rfl rfl (Nat.le_of_ble_eq_true rfl) dM_stop_57 (fun H locs hP hS => ?_)
            cases hq2 : m_last v x with
            | none =>
              refine W.eq (g2 := F0 m 60 ls [.int (-1)]) rfl ?_
              refine lv_istore (lv' := [(5, .int (-1)), (4, .int (nI x)), (0, .ref (ad 0)), (1, .int (nI j)), (2, .int (nI (h1 + 1))), (3, .int cn)]) hx hb dM_stop_60 hl (by decide) rfl (fun ls hl => ?_)
              refine lv_iload hx hb dM_stop_62 (lv_at hl 0 rfl) ?_
              refine lv_if_lt (tgt := 89) hx hb dM_stop_64 (by decide) (fun c_64 => ?_) (fun c_64 => ?_)
              · skip
                refine lv_iinc (v := nI h1) (lv' := [(2, .int (nI h1)), (5, .int (-1)), (4, .int (nI x)), (0, .ref (ad 0)), (1, .int (nI j)), (3, .int cn)]) hx hb dM_stop_89 hl (k := 4) rfl (nI_m1 h1) (by decide) rfl (fun ls hl => ?_)
                refine lv_aload_n hx hb dM_stop_92 rfl (lv_at hl 3 rfl) ?_
                refine mM_get CX hP 22 (by omega) wl_373 rfl dM_stop_93 ?_
                refine lv_iload hx hb dM_stop_96 (lv_at hl 2 rfl) ?_
                refine lv_iconst (v := 0) hx hb dM_stop_98 (by decide) ?_
                refine mA_zst CX hP hS 19 (by omega) 8 rfl (by decide) x (rfl) (by omega) dM_stop_99 (fun H locs hP hS => ?_)
                refine lv_aload_n hx hb dM_stop_100 rfl (lv_at hl 3 rfl) ?_
                refine mM_get CX hP 0 (by omega) wl_351 rfl dM_stop_101 ?_
                refine lv_iload hx hb dM_stop_104 (lv_at hl 2 rfl) ?_
                refine lv_iconst (v := 1) hx hb dM_stop_106 (by decide) ?_
                refine mA_st CX hP hS 1 (by omega) (by omega) 8 rfl x (rfl) (by omega) dM_stop_107 (fun H locs hP hS => ?_)
                refine lv_iinc (v := cn + 1) (lv' := [(3, .int (cn + 1)), (2, .int (nI h1)), (5, .int (-1)), (4, .int (nI x)), (0, .ref (ad 0)), (1, .int (nI j))]) hx hb dM_stop_108 hl (k := 5) rfl (rfl) (by decide) rfl (fun ls hl => ?_)
                refine lv_aload_n hx hb dM_stop_111 rfl (lv_at hl 4 rfl) ?_
                refine lv_bipush (v := 20) hx hb dM_stop_112 (by decide) ?_
                refine lv_iload hx hb dM_stop_114 (lv_at hl 3 rfl) ?_
                refine lv_iadd hx hb dM_stop_116 ?_
                refine kx_topi (v' := nI (20 + x)) (nI_add 20 x) ?_
                refine kx_callV0 (σ1 := m_tell (upd2 (upd2 v 19 x 0) 1 x 1) (nI (20 + x))) (n := 1) (As := [.int (nI (20 + x))]) (rest := []) CX hP hS hl.1 (cM_tell l D cA hJ (upd2 (upd2 v 19 x 0) 1 x 1) (nI (20 + x))) wl_484 wl_486 wp_25 wl_5 wl_487 ⟨rfl, by decide +kernel, by decide +kernel, by decide +kernel⟩ (kw_R_ok (by omega) (by omega)) ⟨rfl, rfl⟩ (k := 0) (by omega) rfl rfl rfl rfl rfl (Nat.le_of_ble_eq_true rfl) dM_stop_117 (fun H locs hP hS => ?_)
                refine lv_goto (tgt := 40) hx hb dM_stop_120 (by decide) ?_
                exact ih40 g1 (cn + 1) h1 (m_tell (upd2 (upd2 v 19 x 0) 1 x 1) (nI (20 + x))) (by omega) (hnn hq2) (by omega) _ _ hP hS ls (lv_sub hl [4, 5, 1, 0] rfl)
              · exact absurd (by decide) c_64
            | some b =>
              have hb8 : b < 8 := (m_lastL_lt hq2).1
              refine W.eq (g2 := F0 m 60 ls [.int (nI b)]) rfl ?_
              refine lv_istore (lv' := [(5, .int (nI b)), (4, .int (nI x)), (0, .ref (ad 0)), (1, .int (nI j)), (2, .int (nI (h1 + 1))), (3, .int cn)]) hx hb dM_stop_60 hl (by decide) rfl (fun ls hl => ?_)
              refine lv_iload hx hb dM_stop_62 (lv_at hl 0 rfl) ?_
              refine lv_if_lt (tgt := 89) hx hb dM_stop_64 (by decide) (fun c_64 => ?_) (fun c_64 => ?_)
              · exact absurd c_64 (nI_n0 (by omega))
              · skip
                refine lv_aload_n hx hb dM_stop_67 rfl (lv_at hl 2 rfl) ?_
                refine mM_get CX hP 20 (by omega) wl_371 rfl dM_stop_68 ?_
                refine lv_iload_n hx hb dM_stop_71 rfl (lv_at hl 4 rfl) ?_
                refine lv_iload hx hb dM_stop_72 (lv_at hl 0 rfl) ?_
                refine mA_st CX hP hS 17 (by omega) (by omega) 10 rfl (h1 + 1) (rfl) (by omega) dM_stop_74 (fun H locs hP hS => ?_)
                refine lv_aload_n hx hb dM_stop_75 rfl (lv_at hl 2 rfl) ?_
                refine mM_get CX hP 22 (by omega) wl_373 rfl dM_stop_76 ?_
                refine lv_iload hx hb dM_stop_79 (lv_at hl 0 rfl) ?_
                refine lv_iconst (v := 1) hx hb dM_stop_81 (by decide) ?_
                refine mA_zst CX hP hS 19 (by omega) 8 rfl (by decide) b (rfl) (by omega) dM_stop_82 (fun H locs hP hS => ?_)
                refine lv_iinc (v := nI (h1 + 1 + 1)) (lv' := [(2, .int (nI (h1 + 1 + 1))), (5, .int (nI b)), (4, .int (nI x)), (0, .ref (ad 0)), (1, .int (nI j)), (3, .int cn)]) hx hb dM_stop_83 hl (k := 4) rfl (nI_i1 (h1 + 1)) (by decide) rfl (fun ls hl => ?_)
                refine lv_goto (tgt := 120) hx hb dM_stop_86 (by decide) ?_
                refine lv_goto (tgt := 40) hx hb dM_stop_120 (by decide) ?_
                exact ih40 g1 cn (h1 + 1 + 1) (upd2 (upd2 v 17 (h1 + 1) (nI b)) 19 b 1) (by omega) (hsm b hq2) (by omega) _ _ hP hS ls (lv_sub hl [3, 4, 0, 5] rfl)
      exact loop_40 (g0 + 1) g0 0 1 (upd2 (upd2 μ 17 0 (nI j)) 19 j 1) (by omega) hg0 (Nat.lt_succ_self _) _ _ hP hS ls (lv_sub hl [2, 3, 1, 0] rfl)
    · skip
      refine lv_iconst (v := (-1)) hx hb dM_stop_20 (by decide) ?_
      exact kx_iret (σ' := μ) CX hP hS dM_stop_21 (by obtain ⟨h1, h2⟩ := hst.1 (by simp [c_17, ej]); exact ⟨by rw [h1], h2⟩)
