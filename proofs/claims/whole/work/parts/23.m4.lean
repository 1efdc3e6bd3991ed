def m_isI (c : Nat) : Nat → Int32
  | 0 => 1
  | d + 1 => if 2 ≤ d ∧ c % d = 0 then 0 else m_isI c d
def m_prL : Nat → Nat → Nat → Option Nat
  | 0, _, _ => none
  | _ + 1, c, 0 => some c
  | g + 1, c, lf + 1 => if m_isI (c + 1) (c + 1) = 0 then m_prL g (c + 1) (lf + 1) else m_prL g (c + 1) lf
theorem m_pr_ok : ∀ k, k < 12 → ∃ R, m_prL 40 2 k = some R ∧ nI R = kx_tbl k := by
  intro k hk
  have h : ∀ k, k < 12 → ((m_prL 40 2 k).map nI) = some (kx_tbl k) := by decide +kernel
  have := h k hk
  cases e : m_prL 40 2 k with
  | none => rw [e] at this; cases this
  | some R => rw [e] at this; exact ⟨R, rfl, Option.some.inj this⟩
def m_divided (d : Nat) (μ : MS) (x p : Int32) : Int32 × MS := if p = 0 then (1, μ) else if p = -1 then (0, upd2 μ 20 d (-x)) else (0, upd2 μ 20 d (x / p))
def m_looked (d : Nat) (μ : MS) (t : Nat) : Int32 × MS := if t ≤ 11 then (0, upd2 μ 20 d (kx_tbl t)) else (2, μ)
def m_asked (d : Nat) (μ : MS) (x p : Int32) : Int32 × MS :=
  if μ 1 (lo3 p) = 2 ∧ ¬ μ 4 (lo3 p) = 0 then (if μ 4 (lo3 p) = 2 then (3, upd2 μ 35 0 (p &&& 7)) else (0, upd2 (upd2 μ 35 0 (p &&& 7)) 20 d (x + μ 5 (lo3 p)))) else (4, upd2 μ 35 0 (p &&& 7))
def m_rows (n d : Nat) (p : Int32) (v : MS) : Nat → MS
  | 0 => v
  | k + 1 => upd2 (upd2 (m_rows n d p v k) 21 (16 * d + k) (m_ord n v p (nI k))) 22 d (nI (k + 1))
def m_lenL (n : Nat) (μ : MS) (p : Int32) : Nat → Nat → Nat
  | 0, k => k
  | g + 1, k => if 0 ≤ m_ord n μ p (nI k) then m_lenL n μ p g (k + 1) else k
def m_len (n : Nat) (μ : MS) (p : Int32) : Nat := m_lenL n μ p 17 0
def m_bc0 (d : Nat) (μ : MS) (x : Int32) : MS := upd2 (upd2 (upd2 μ 20 d x) 22 d 0) 23 d 0
def m_beginC (n d : Nat) (μ : MS) (p x : Int32) : MS := upd2 (m_rows n d p (m_bc0 d μ x) (m_len n (m_bc0 d μ x) p)) 34 0 (nI (d + 1))
theorem m_bc0_ns (d : Nat) (μ : MS) (x : Int32) : ns μ (m_bc0 d μ x) := ns_u (ns_u (ns_u (ns_r μ) (by omega)) (by omega)) (by omega)
theorem m_rows_ns (n d : Nat) (p : Int32) (v : MS) (k : Nat) : ns v (m_rows n d p v k) := by
  induction k with
  | zero => exact ns_r v
  | succ k ih => exact ns_u (ns_u ih (by omega)) (by omega)
theorem m_rows_34 (n d : Nat) (p : Int32) (v : MS) (k : Nat) : m_rows n d p v k 34 = v 34 := by
  induction k with
  | zero => rfl
  | succ k ih =>
    simp only [m_rows]
    rw [upd2_f (by omega), upd2_f (by omega), ih]
theorem m_rows_22 (n d : Nat) (p : Int32) (v : MS) (h : v 22 d = 0) (k : Nat) : m_rows n d p v k 22 d = nI k := by
  cases k with
  | zero => exact h
  | succ k => simp only [m_rows]; exact upd2_s
def m_done (n d : Nat) (μ : MS) (e : Nat) : Int32 × MS :=
  if μ 9 e = 0 then (0, upd2 (upd2 μ 35 0 (-1)) 20 d (μ 20 d + μ 10 e))
  else if μ 9 e = 1 then m_divided d (upd2 μ 35 0 (-1)) (μ 20 d) (μ 10 e)
  else if μ 9 e = 2 then m_looked d (upd2 μ 35 0 (-1)) (lo4 (μ 20 d ^^^ μ 10 e))
  else if μ 9 e = 3 then m_asked d (upd2 μ 35 0 (-1)) (μ 20 d) (μ 10 e)
  else if μ 9 e = 4 then (5, upd2 μ 35 0 (-1))
  else if μ 9 e = 5 then (if d + 1 = 4 then (7, upd2 (upd2 μ 35 0 (-1)) 35 0 (μ 7 e)) else
    (if μ 10 e &&& 3 = 3 then (8, m_beginC n (d + 1) (upd2 (upd2 μ 35 0 (-1)) 35 0 (μ 7 e)) 0 (μ 20 d + 1)) else (8, m_beginC n (d + 1) (upd2 (upd2 μ 35 0 (-1)) 35 0 (μ 7 e)) (μ 10 e &&& 3) (μ 20 d + 1))))
  else if μ 9 e = 6 then (if μ 10 e ≤ μ 20 d then (6, upd2 μ 35 0 (-1)) else (0, upd2 μ 35 0 (-1)))
  else if μ 9 e = 7 then (0, upd2 (upd2 μ 35 0 (-1)) 20 d (μ 20 d + μ 13 e))
  else if μ 20 d = μ 10 e then (6, m_tell (upd2 μ 35 0 (-1)) (nI (40 + e))) else (0, upd2 (m_tell (upd2 μ 35 0 (-1)) (nI (40 + e))) 20 d (2 * μ 20 d))
def m_fail0 (μ : MS) (i : Nat) (kd : Int32) : MS := upd2 (upd2 (upd2 (upd2 (upd2 μ 12 i (μ 12 i + 1)) 15 (3 * lo3 (μ 32 0)) (nI i)) 15 (3 * lo3 (μ 32 0) + 1) kd) 15 (3 * lo3 (μ 32 0) + 2) (μ 35 0)) 32 0 (μ 32 0 + 1)
def m_fail (μ : MS) (i : Nat) (kd : Int32) : MS := if 3 ≤ m_fail0 μ i kd 12 i then m_tell (upd2 (m_fail0 μ i kd) 14 i 1) (nI (60 + i)) else m_fail0 μ i kd
/-- the loop of 'call' from its head comes to the answer R and the state U within g rounds -/
def m_cok (n : Nat) : Nat → MS → Int32 → MS → Prop
  | 0, _, _, _ => False
  | g + 1, v, R, U => v 31 0 = nI n ∧ plM v ∧ ∃ d t L, d < 4 ∧ t ≤ 16 ∧ L ≤ 16 ∧ v 34 0 = nI (d + 1) ∧ v 23 d = nI t ∧ v 22 d = nI L ∧
    (t = L → d = 0 → R = v 20 0 ∧ U = v) ∧
    (t = L → ∀ d', d = d' + 1 → m_cok n g (upd2 (upd2 v 34 0 (nI (d' + 1))) 20 d' (v 20 d)) R U) ∧
    (¬ t = L → ∃ e, t < 16 ∧ e < 16 ∧ v 21 (16 * d + t) = nI e ∧
      (¬ liveM v e = true → m_cok n g (upd2 v 23 d (nI (t + 1))) R U) ∧
      (liveM v e = true → ∀ f w, m_done n d (upd2 (upd2 v 23 d (nI (t + 1))) 13 e (v 13 e + 1)) e = (f, w) →
        (f ≤ 0 → m_cok n g w R U) ∧ (¬ f ≤ 0 → 8 ≤ f → m_cok n g w R U) ∧ (¬ f ≤ 0 → ¬ 8 ≤ f → m_cok n g (m_fail w e f) R U)))
def m_clOK (n : Nat) (μ : MS) (p x : Int32) (R : Int32) (U : MS) : Prop := (¬ inR p 0 2 = true → R = -1 ∧ U = μ) ∧ (inR p 0 2 = true → ∃ g, m_cok n g (m_beginC n 0 (upd2 μ 34 0 0) p x) R U)
set_option maxRecDepth 100000 in
set_option maxHeartbeats 800000 in
theorem cM_prime (l : Launch) (D : va_G) (cA : Nat → ClassId) {ad : Nat → Nat} (hJ : kw_J 24 ad) (μ : MS) (k : Nat) (hk : k < 12) : kx_Met l yM_prime (.code yM_prime bM_prime 5 (Option.some .int) :: kw_T) (kw_R 0) D (kx_tys cA) 24 ad (wM cA ad) μ [.int (nI k)] (fun r9 u9 => r9 = some (.int (kx_tbl k)) ∧ μ = u9) := by
  obtain ⟨RR, hR1, hR2⟩ := m_pr_ok k hk
  refine kx_of hJ (by decide +kernel) (Nat.le_of_ble_eq_true rfl) ?_
  intro p e s m args below meth c CX ls hl hP hS
  obtain ⟨hx, hb, hr, hml, hown, hts, hlk, hK, hJ1, hZ⟩ := id CX
  have hl : lv_has ls 5 [(0, .int (nI k))] := hl
  refine lv_iconst (v := 2) hx hb dM_prime_0 (by decide) ?_
  refine lv_istore_n (lv' := [(1, .int 2), (0, .int (nI k))]) hx hb dM_prime_1 rfl hl (by decide) rfl (fun ls hl => ?_)
  refine lv_iload_n hx hb dM_prime_2 rfl (lv_at hl 1 rfl) ?_
  refine lv_istore_n (lv' := [(2, .int (nI k)), (1, .int 2), (0, .int (nI k))]) hx hb dM_prime_3 rfl hl (by decide) rfl (fun ls hl => ?_)
  have loop_4 : ∀ (fu : Nat) (g : Nat) (c1 : Nat) (lf : Nat), (c1 + g ≤ 45 ∧ 2 ≤ c1 ∧ lf ≤ 12) → (m_prL g c1 lf = some RR) → g < fu → ∀ (H : Heap) (locs : List Loc), va_P D classes (kw_W 24 ad (wM cA ad μ)) H → va_S (kw_A 24 ad s.heap.size) s.heap H locs → ∀ (ls : Array Slot), lv_has ls 5 [(0, .int (nI k)), (1, .int (nI c1)), (2, .int (nI lf))] → W p l e (kw_R 0) s m args below meth c H locs 0 0 (kx_Q below D 24 ad (wM cA ad) (fun r9 u9 => r9 = some (.int (kx_tbl k)) ∧ μ = u9) args s) (F0 m 4 ls []) := by
    intro fu4
    induction fu4 with
    | zero => intro g c1 lf hb1 hq hm4; exact absurd hm4 (Nat.not_lt_zero _)
    | succ fu4 ih4 =>
      intro g c1 lf hb1 hq hm4 H locs hP hS ls hl
      obtain ⟨g1, rfl⟩ : ∃ g1, g = g1 + 1 := by
        cases g with
        | zero => cases hq
        | succ g1 => exact ⟨g1, rfl⟩
      refine lv_iload_n hx hb dM_prime_4 rfl (lv_at hl 2 rfl) ?_
      refine lv_if_le (tgt := 47) hx hb dM_prime_5 (by decide) (fun c_5 => ?_) (fun c_5 => ?_)
      · have c_5 : lf ≤ 0 := (nI_le' (a := lf) (b := 0) (by omega) (by omega)).mp c_5
        refine lv_iload_n hx hb dM_prime_47 rfl (lv_at hl 1 rfl) ?_
        exact kx_iret (σ' := μ) CX hP hS dM_prime_48 (by (obtain rfl : lf = 0 := by omega); obtain rfl := Option.some.inj hq; exact ⟨by rw [hR2], rfl⟩)
      · have c_5 : ¬ (lf ≤ 0) := fun hq9 => c_5 ((nI_le' (a := lf) (b := 0) (by omega) (by omega)).mpr hq9)
        obtain ⟨l2, rfl⟩ : ∃ l2, lf = l2 + 1 := ⟨lf - 1, by omega⟩
        refine lv_iinc (v := nI (c1 + 1)) (lv' := [(1, .int (nI (c1 + 1))), (0, .int (nI k)), (2, .int (nI (l2 + 1)))]) hx hb dM_prime_8 hl (k := 1) rfl (nI_i1 c1) (by decide) rfl (fun ls hl => ?_)
        refine lv_iconst (v := 1) hx hb dM_prime_11 (by decide) ?_
        refine lv_istore_n (lv' := [(3, .int 1), (1, .int (nI (c1 + 1))), (0, .int (nI k)), (2, .int (nI (l2 + 1)))]) hx hb dM_prime_12 rfl hl (by decide) rfl (fun ls hl => ?_)
        refine lv_iconst (v := 2) hx hb dM_prime_13 (by decide) ?_
        refine lv_istore (lv' := [(4, .int 2), (3, .int 1), (1, .int (nI (c1 + 1))), (0, .int (nI k)), (2, .int (nI (l2 + 1)))]) hx hb dM_prime_14 hl (by decide) rfl (fun ls hl => ?_)
        have loop_16 : ∀ (fu : Nat) (dd : Nat) (r : Int32), (2 ≤ dd ∧ dd ≤ c1 + 1) → (r = m_isI (c1 + 1) dd) → c1 + 1 - dd < fu → ∀ (H : Heap) (locs : List Loc), va_P D classes (kw_W 24 ad (wM cA ad μ)) H → va_S (kw_A 24 ad s.heap.size) s.heap H locs → ∀ (ls : Array Slot), lv_has ls 5 [(0, .int (nI k)), (1, .int (nI (c1 + 1))), (2, .int (nI (l2 + 1))), (3, .int r), (4, .int (nI dd))] → W p l e (kw_R 0) s m args below meth c H locs 0 0 (kx_Q below D 24 ad (wM cA ad) (fun r9 u9 => r9 = some (.int (kx_tbl k)) ∧ μ = u9) args s) (F0 m 16 ls []) := by
          intro fu16
          induction fu16 with
          | zero => intro dd r hdd hq2 hm16; exact absurd hm16 (Nat.not_lt_zero _)
          | succ fu16 ih16 =>
            intro dd r hdd hq2 hm16 H locs hP hS ls hl
            refine lv_iload hx hb dM_prime_16 (lv_at hl 4 rfl) ?_
            refine lv_iload_n hx hb dM_prime_18 rfl (lv_at hl 1 rfl) ?_
            refine lv_icmp_ge (tgt := 37) hx hb dM_prime_19 (by decide) (fun c_19 => ?_) (fun c_19 => ?_)
            · have c_19i := c_19
              have c_19 : c1 + 1 ≤ dd := (nI_le' (a := c1 + 1) (b := dd) (by omega) (by omega)).mp c_19
              refine lv_iload_n hx hb dM_prime_37 rfl (lv_at hl 3 rfl) ?_
              refine lv_if_eq (tgt := 44) hx hb dM_prime_38 (by decide) (fun c_38 => ?_) (fun c_38 => ?_)
              · skip
                refine lv_goto (tgt := 4) hx hb dM_prime_44 (by decide) ?_
                exact ih4 g1 (c1 + 1) (l2 + 1) (by omega) (by (have hd : dd = c1 + 1 := by omega); rw [hd] at hq2; rw [hq2] at c_38; simp only [m_prL] at hq; rw [if_pos c_38] at hq; exact hq) (by omega) _ _ hP hS ls (lv_sub hl [0, 1, 2] rfl)
              · skip
                refine lv_iinc (v := nI l2) (lv' := [(2, .int (nI l2)), (0, .int (nI k)), (1, .int (nI (c1 + 1))), (3, .int r), (4, .int (nI dd))]) hx hb dM_prime_41 hl (k := 2) rfl (nI_m1 l2) (by decide) rfl (fun ls hl => ?_)
                refine lv_goto (tgt := 4) hx hb dM_prime_44 (by decide) ?_
                exact ih4 g1 (c1 + 1) l2 (by omega) (by (have hd : dd = c1 + 1 := by omega); rw [hd] at hq2; rw [hq2] at c_38; simp only [m_prL] at hq; rw [if_neg c_38] at hq; exact hq) (by omega) _ _ hP hS ls (lv_sub hl [1, 2, 0] rfl)
            · have c_19i := c_19
              have c_19 : ¬ (c1 + 1 ≤ dd) := fun hq9 => c_19 ((nI_le' (a := c1 + 1) (b := dd) (by omega) (by omega)).mpr hq9)
              refine lv_iload_n hx hb dM_prime_22 rfl (lv_at hl 1 rfl) ?_
              refine lv_iload hx hb dM_prime_23 (lv_at hl 4 rfl) ?_
              refine lv_irem hx hb dM_prime_25 (nI_ne0 (by omega) (by omega)) ?_
              have hmod := Nat.mod_lt (c1 + 1) (show 0 < dd by omega)
              refine kx_topi (v' := nI ((c1 + 1) % dd)) (pk_rem (by omega) (by omega) (by omega)) ?_
              refine lv_if_ne (tgt := 31) hx hb dM_prime_26 (by decide) (fun c_26 => ?_) (fun c_26 => ?_)
              · have c_26 : ¬ ((c1 + 1) % dd = 0) := (not_congr (nI_eq' (a := ((c1 + 1) % dd)) (b := 0) (by omega) (by omega))).mp c_26
                refine lv_iinc (v := nI (dd + 1)) (lv' := [(4, .int (nI (dd + 1))), (0, .int (nI k)), (1, .int (nI (c1 + 1))), (2, .int (nI (l2 + 1))), (3, .int r)]) hx hb dM_prime_31 hl (k := 4) rfl (nI_i1 dd) (by decide) rfl (fun ls hl => ?_)
                refine lv_goto (tgt := 16) hx hb dM_prime_34 (by decide) ?_
                exact ih16 (dd + 1) r (by omega) (by (have h2 : 2 ≤ dd := by omega); simp [m_isI, h2, hq2, c_26]) (by omega) _ _ hP hS ls (lv_sub hl [1, 2, 3, 4, 0] rfl)
              · have c_26 : (c1 + 1) % dd = 0 := (nI_eq' (a := ((c1 + 1) % dd)) (b := 0) (by omega) (by omega)).mp c_26
                refine lv_iconst (v := 0) hx hb dM_prime_29 (by decide) ?_
                refine lv_istore_n (lv' := [(3, .int 0), (0, .int (nI k)), (1, .int (nI (c1 + 1))), (2, .int (nI (l2 + 1))), (4, .int (nI dd))]) hx hb dM_prime_30 rfl hl (by decide) rfl (fun ls hl => ?_)
                refine lv_iinc (v := nI (dd + 1)) (lv' := [(4, .int (nI (dd + 1))), (3, .int 0), (0, .int (nI k)), (1, .int (nI (c1 + 1))), (2, .int (nI (l2 + 1)))]) hx hb dM_prime_31 hl (k := 4) rfl (nI_i1 dd) (by decide) rfl (fun ls hl => ?_)
                refine lv_goto (tgt := 16) hx hb dM_prime_34 (by decide) ?_
                exact ih16 (dd + 1) 0 (by omega) (by (have h2 : 2 ≤ dd := by omega); simp [m_isI, h2, hq2, c_26]) (by omega) _ _ hP hS ls (lv_sub hl [2, 3, 4, 1, 0] rfl)
        exact loop_16 ((c1 + 1 - 2) + 1) 2 1 (by omega) (by simp [m_isI]) (Nat.lt_succ_self _) _ _ hP hS ls (lv_sub hl [3, 2, 4, 1, 0] rfl)
  exact loop_4 (40 + 1) 40 2 k (by omega) hR1 (Nat.lt_succ_self _) _ _ hP hS ls (lv_sub hl [2, 1, 0] rfl)
set_option maxRecDepth 100000 in
set_option maxHeartbeats 800000 in
theorem cM_divided (l : Launch) (D : va_G) (cA : Nat → ClassId) {ad : Nat → Nat} (hJ : kw_J 24 ad) (μ : MS) (x1 x2 : Int32) (d : Nat) (hd : d < 4) (hd9 : μ 34 0 = nI (d + 1)) : kx_Met l yM_divided (.code yM_divided bM_divided 3 (Option.some .int) :: kw_T) (kw_R 0) D (kx_tys cA) 24 ad (wM cA ad) μ [.ref (ad 0), .int x1, .int x2] (fun r9 u9 => r9 = some (.int ((m_divided d μ x1 x2).1)) ∧ (m_divided d μ x1 x2).2 = u9) := by
  refine kx_of hJ (by decide +kernel) (Nat.le_of_ble_eq_true rfl) ?_
  intro p e s m args below meth c CX ls hl hP hS
  obtain ⟨hx, hb, hr, hml, hown, hts, hlk, hK, hJ1, hZ⟩ := id CX
  have hl : lv_has ls 3 [(0, .ref (ad 0)), (1, .int x1), (2, .int x2)] := hl
  refine lv_iload_n hx hb dM_divided_0 rfl (lv_at hl 2 rfl) ?_
  refine lv_if_ne (tgt := 6) hx hb dM_divided_1 (by decide) (fun c_1 => ?_) (fun c_1 => ?_)
  · skip
    refine lv_aload_n hx hb dM_divided_6 rfl (lv_at hl 0 rfl) ?_
    refine mM_get CX hP 24 (by omega) wl_375 rfl dM_divided_7 ?_
    refine lv_aload_n hx hb dM_divided_10 rfl (lv_at hl 0 rfl) ?_
    refine mM_get CX hP 23 (by omega) wl_374 rfl dM_divided_11 ?_
    refine kx_topi (v' := nI (d + 1)) (hd9) ?_
    refine lv_iconst (v := 1) hx hb dM_divided_14 (by decide) ?_
    refine lv_isub hx hb dM_divided_15 ?_
    refine lv_iload_n hx hb dM_divided_16 rfl (lv_at hl 2 rfl) ?_
    refine lv_iconst (v := (-1)) hx hb dM_divided_17 (by decide) ?_
    refine lv_icmp_ne (tgt := 26) hx hb dM_divided_18 (by decide) (fun c_18 => ?_) (fun c_18 => ?_)
    · skip
      refine lv_iload_n hx hb dM_divided_26 rfl (lv_at hl 1 rfl) ?_
      refine lv_iload_n hx hb dM_divided_27 rfl (lv_at hl 2 rfl) ?_
      refine lv_idiv hx hb dM_divided_28 (c_1) ?_
      refine mA_st CX hP hS 20 (by omega) (by omega) 5 rfl d (nI_s1 d) (by omega) dM_divided_29 (fun H locs hP hS => ?_)
      refine lv_iconst (v := 0) hx hb dM_divided_30 (by decide) ?_
      exact kx_iret (σ' := upd2 μ 20 d (x1 / x2)) CX hP hS dM_divided_31 (by constructor <;> simp [bI, c_1, c_18, m_divided])
    · skip
      refine lv_iload_n hx hb dM_divided_21 rfl (lv_at hl 1 rfl) ?_
      refine lv_ineg hx hb dM_divided_22 ?_
      refine lv_goto (tgt := 29) hx hb dM_divided_23 (by decide) ?_
      refine mA_st CX hP hS 20 (by omega) (by omega) 5 rfl d (nI_s1 d) (by omega) dM_divided_29 (fun H locs hP hS => ?_)
      refine lv_iconst (v := 0) hx hb dM_divided_30 (by decide) ?_
      exact kx_iret (σ' := upd2 μ 20 d (-x1)) CX hP hS dM_divided_31 (by constructor <;> simp [bI, c_1, c_18, m_divided])
  · skip
    refine lv_iconst (v := 1) hx hb dM_divided_4 (by decide) ?_
    exact kx_iret (σ' := μ) CX hP hS dM_divided_5 (by constructor <;> simp [bI, c_1, m_divided])
set_option maxRecDepth 100000 in
set_option maxHeartbeats 800000 in
theorem cM_looked (l : Launch) (D : va_G) (cA : Nat → ClassId) {ad : Nat → Nat} (hJ : kw_J 24 ad) (μ : MS) (t : Nat) (ht : t < 16) (d : Nat) (hd : d < 4) (hd9 : μ 34 0 = nI (d + 1)) : kx_Met l yM_looked (.code yM_looked bM_looked 2 (Option.some .int) :: kw_T) (kw_R 1) D (kx_tys cA) 24 ad (wM cA ad) μ [.ref (ad 0), .int (nI t)] (fun r9 u9 => r9 = some (.int ((m_looked d μ t).1)) ∧ (m_looked d μ t).2 = u9) := by
  refine kx_of hJ (by decide +kernel) (Nat.le_of_ble_eq_true rfl) ?_
  intro p e s m args below meth c CX ls hl hP hS
  obtain ⟨hx, hb, hr, hml, hown, hts, hlk, hK, hJ1, hZ⟩ := id CX
  have hl : lv_has ls 2 [(0, .ref (ad 0)), (1, .int (nI t))] := hl
  refine lv_iload_n hx hb dM_looked_0 rfl (lv_at hl 1 rfl) ?_
  refine lv_bipush (v := 11) hx hb dM_looked_1 (by decide) ?_
  refine lv_icmp_le (tgt := 8) hx hb dM_looked_3 (by decide) (fun c_3 => ?_) (fun c_3 => ?_)
  · have c_3i := c_3
    have c_3 : t ≤ 11 := (nI_le' (a := t) (b := 11) (by omega) (by omega)).mp c_3
    refine lv_aload_n hx hb dM_looked_8 rfl (lv_at hl 0 rfl) ?_
    refine mM_get CX hP 24 (by omega) wl_375 rfl dM_looked_9 ?_
    refine lv_aload_n hx hb dM_looked_12 rfl (lv_at hl 0 rfl) ?_
    refine mM_get CX hP 23 (by omega) wl_374 rfl dM_looked_13 ?_
    refine kx_topi (v' := nI (d + 1)) (hd9) ?_
    refine lv_iconst (v := 1) hx hb dM_looked_16 (by decide) ?_
    refine lv_isub hx hb dM_looked_17 ?_
    refine lv_iload_n hx hb dM_looked_18 rfl (lv_at hl 1 rfl) ?_
    refine kx_callS1 (σ1 := μ) (v := .int (kx_tbl t)) (n := 1) (As := [.int (nI t)]) (rest := [.int ((nI (d + 1)) - 1), .ref (ad 20)]) CX hP hS hl.1 (cM_prime l D cA hJ μ t (by omega)) wl_532 wl_533 wl_5 wl_534 ⟨by decide +kernel, by decide +kernel, by decide +kernel⟩ (kw_R_ok (by omega) (by omega)) ⟨rfl, rfl⟩ rfl rfl (Nat.le_of_ble_eq_true rfl) dM_looked_19 (fun H locs hP hS => ?_)
    refine mA_st CX hP hS 20 (by omega) (by omega) 5 rfl d (nI_s1 d) (by omega) dM_looked_22 (fun H locs hP hS => ?_)
    refine lv_iconst (v := 0) hx hb dM_looked_23 (by decide) ?_
    exact kx_iret (σ' := upd2 μ 20 d (kx_tbl t)) CX hP hS dM_looked_24 (by constructor <;> simp [bI, c_3, c_3i, m_looked])
  · have c_3i := c_3
    have c_3 : ¬ (t ≤ 11) := fun hq9 => c_3 ((nI_le' (a := t) (b := 11) (by omega) (by omega)).mpr hq9)
    refine lv_iconst (v := 2) hx hb dM_looked_6 (by decide) ?_
    exact kx_iret (σ' := μ) CX hP hS dM_looked_7 (by constructor <;> simp [bI, c_3, c_3i, m_looked])
set_option maxRecDepth 100000 in
set_option maxHeartbeats 800000 in
theorem cM_asked (l : Launch) (D : va_G) (cA : Nat → ClassId) {ad : Nat → Nat} (hJ : kw_J 24 ad) (μ : MS) (x1 x2 : Int32) (d : Nat) (hd : d < 4) (hd9 : μ 34 0 = nI (d + 1)) : kx_Met l yM_asked (.code yM_asked bM_asked 3 (Option.some .int) :: kw_T) (kw_R 0) D (kx_tys cA) 24 ad (wM cA ad) μ [.ref (ad 0), .int x1, .int x2] (fun r9 u9 => r9 = some (.int ((m_asked d μ x1 x2).1)) ∧ (m_asked d μ x1 x2).2 = u9) := by
  have hl3 := lo3_lt x2
  refine kx_of hJ (by decide +kernel) (Nat.le_of_ble_eq_true rfl) ?_
  intro p e s m args below meth c CX ls hl hP hS
  obtain ⟨hx, hb, hr, hml, hown, hts, hlk, hK, hJ1, hZ⟩ := id CX
  have hl : lv_has ls 3 [(0, .ref (ad 0)), (1, .int x1), (2, .int x2)] := hl
  refine lv_aload_n hx hb dM_asked_0 rfl (lv_at hl 0 rfl) ?_
  refine lv_iload_n hx hb dM_asked_1 rfl (lv_at hl 2 rfl) ?_
  refine lv_bipush (v := 7) hx hb dM_asked_2 (by decide) ?_
  refine lv_iand hx hb dM_asked_4 ?_
  refine mM_put CX hP hS 28 (by omega) 35 rfl wl_379 dM_asked_5 (fun H locs hP hS => ?_)
  refine lv_aload_n hx hb dM_asked_8 rfl (lv_at hl 0 rfl) ?_
  refine mM_get CX hP 0 (by omega) wl_351 rfl dM_asked_9 ?_
  refine lv_aload_n hx hb dM_asked_12 rfl (lv_at hl 0 rfl) ?_
  refine mM_get CX hP 28 (by omega) wl_379 rfl dM_asked_13 ?_
  refine kx_topi (v' := x2 &&& 7) rfl ?_
  refine mA_ld CX hP 1 (by omega) (by omega) 8 rfl (lo3 x2) (and7 _) (lo3_lt _) dM_asked_16 ?_
  refine kx_topi (v' := μ 1 (lo3 x2)) rfl ?_
  refine lv_iconst (v := 2) hx hb dM_asked_17 (by decide) ?_
  refine lv_icmp_ne (tgt := 33) hx hb dM_asked_18 (by decide) (fun c_18 => ?_) (fun c_18 => ?_)
  · skip
    refine lv_iconst (v := 4) hx hb dM_asked_33 (by decide) ?_
    exact kx_iret (σ' := upd2 μ 35 0 (x2 &&& 7)) CX hP hS dM_asked_34 (by constructor <;> simp [bI, c_18, m_asked])
  · skip
    refine lv_aload_n hx hb dM_asked_21 rfl (lv_at hl 0 rfl) ?_
    refine mM_get CX hP 3 (by omega) wl_354 rfl dM_asked_22 ?_
    refine lv_aload_n hx hb dM_asked_25 rfl (lv_at hl 0 rfl) ?_
    refine mM_get CX hP 28 (by omega) wl_379 rfl dM_asked_26 ?_
    refine kx_topi (v' := x2 &&& 7) rfl ?_
    refine mA_ld CX hP 4 (by omega) (by omega) 8 rfl (lo3 x2) (and7 _) (lo3_lt _) dM_asked_29 ?_
    refine kx_topi (v' := μ 4 (lo3 x2)) rfl ?_
    refine lv_if_ne (tgt := 35) hx hb dM_asked_30 (by decide) (fun c_30 => ?_) (fun c_30 => ?_)
    · skip
      refine lv_aload_n hx hb dM_asked_35 rfl (lv_at hl 0 rfl) ?_
      refine mM_get CX hP 3 (by omega) wl_354 rfl dM_asked_36 ?_
      refine lv_aload_n hx hb dM_asked_39 rfl (lv_at hl 0 rfl) ?_
      refine mM_get CX hP 28 (by omega) wl_379 rfl dM_asked_40 ?_
      refine kx_topi (v' := x2 &&& 7) rfl ?_
      refine mA_ld CX hP 4 (by omega) (by omega) 8 rfl (lo3 x2) (and7 _) (lo3_lt _) dM_asked_43 ?_
      refine kx_topi (v' := μ 4 (lo3 x2)) rfl ?_
      refine lv_iconst (v := 2) hx hb dM_asked_44 (by decide) ?_
      refine lv_icmp_ne (tgt := 50) hx hb dM_asked_45 (by decide) (fun c_45 => ?_) (fun c_45 => ?_)
      · skip
        refine lv_aload_n hx hb dM_asked_50 rfl (lv_at hl 0 rfl) ?_
        refine mM_get CX hP 24 (by omega) wl_375 rfl dM_asked_51 ?_
        refine lv_aload_n hx hb dM_asked_54 rfl (lv_at hl 0 rfl) ?_
        refine mM_get CX hP 23 (by omega) wl_374 rfl dM_asked_55 ?_
        refine kx_topi (v' := μ 34 0) rfl ?_
        refine kx_topi (v' := nI (d + 1)) (hd9) ?_
        refine lv_iconst (v := 1) hx hb dM_asked_58 (by decide) ?_
        refine lv_isub hx hb dM_asked_59 ?_
        refine lv_iload_n hx hb dM_asked_60 rfl (lv_at hl 1 rfl) ?_
        refine lv_aload_n hx hb dM_asked_61 rfl (lv_at hl 0 rfl) ?_
        refine mM_get CX hP 4 (by omega) wl_355 rfl dM_asked_62 ?_
        refine lv_aload_n hx hb dM_asked_65 rfl (lv_at hl 0 rfl) ?_
        refine mM_get CX hP 28 (by omega) wl_379 rfl dM_asked_66 ?_
        refine kx_topi (v' := x2 &&& 7) rfl ?_
        refine mA_ld CX hP 5 (by omega) (by omega) 8 rfl (lo3 x2) (and7 _) (lo3_lt _) dM_asked_69 ?_
        refine kx_topi (v' := μ 5 (lo3 x2)) rfl ?_
        refine lv_iadd hx hb dM_asked_70 ?_
        refine mA_st CX hP hS 20 (by omega) (by omega) 5 rfl d (nI_s1 d) (by omega) dM_asked_71 (fun H locs hP hS => ?_)
        refine lv_iconst (v := 0) hx hb dM_asked_72 (by decide) ?_
        exact kx_iret (σ' := upd2 (upd2 μ 35 0 (x2 &&& 7)) 20 d (x1 + (μ 5 (lo3 x2)))) CX hP hS dM_asked_73 (by constructor <;> simp [bI, c_18, c_30, c_45, m_asked])
      · skip
        refine lv_iconst (v := 3) hx hb dM_asked_48 (by decide) ?_
        exact kx_iret (σ' := upd2 μ 35 0 (x2 &&& 7)) CX hP hS dM_asked_49 (by constructor <;> simp [bI, c_18, c_30, c_45, m_asked])
    · skip
      refine lv_iconst (v := 4) hx hb dM_asked_33 (by decide) ?_
      exact kx_iret (σ' := upd2 μ 35 0 (x2 &&& 7)) CX hP hS dM_asked_34 (by constructor <;> simp [bI, c_18, c_30, m_asked])
set_option maxRecDepth 100000 in
set_option maxHeartbeats 800000 in
theorem cM_beginCall (l : Launch) (D : va_G) (cA : Nat → ClassId) {ad : Nat → Nat} (hJ : kw_J 24 ad) (μ : MS) (x1 x2 : Int32) (n : Nat) (hn : n ≤ 16) (hm9 : μ 31 0 = nI n) (hpl : plM μ) (d : Nat) (hd : d < 4) (hd9 : μ 34 0 = nI d) : kx_Met l yM_beginCall (.code yM_beginCall bM_beginCall 4 none :: kw_T) (kw_R 2) D (kx_tys cA) 24 ad (wM cA ad) μ [.ref (ad 0), .int x1, .int x2] (fun r9 u9 => r9 = none ∧ m_beginC n d μ x1 x2 = u9) := by
  refine kx_of hJ (by decide +kernel) (Nat.le_of_ble_eq_true rfl) ?_
  intro p e s m args below meth c CX ls hl hP hS
  obtain ⟨hx, hb, hr, hml, hown, hts, hlk, hK, hJ1, hZ⟩ := id CX
  have hl : lv_has ls 4 [(0, .ref (ad 0)), (1, .int x1), (2, .int x2)] := hl
  refine lv_aload_n hx hb dM_beginCall_0 rfl (lv_at hl 0 rfl) ?_
  refine mM_get CX hP 24 (by omega) wl_375 rfl dM_beginCall_1 ?_
  refine lv_aload_n hx hb dM_beginCall_4 rfl (lv_at hl 0 rfl) ?_
  refine mM_get CX hP 23 (by omega) wl_374 rfl dM_beginCall_5 ?_
  refine kx_topi (v' := nI d) (hd9) ?_
  refine lv_iload_n hx hb dM_beginCall_8 rfl (lv_at hl 2 rfl) ?_
  refine mA_st CX hP hS 20 (by omega) (by omega) 5 rfl d (rfl) (by omega) dM_beginCall_9 (fun H locs hP hS => ?_)
  refine lv_aload_n hx hb dM_beginCall_10 rfl (lv_at hl 0 rfl) ?_
  refine mM_get CX hP 26 (by omega) wl_377 rfl dM_beginCall_11 ?_
  refine lv_aload_n hx hb dM_beginCall_14 rfl (lv_at hl 0 rfl) ?_
  refine mM_get CX hP 23 (by omega) wl_374 rfl dM_beginCall_15 ?_
  refine kx_topi (v' := μ 34 0) rfl ?_
  refine kx_topi (v' := nI d) (hd9) ?_
  refine lv_iconst (v := 0) hx hb dM_beginCall_18 (by decide) ?_
  refine mA_st CX hP hS 22 (by omega) (by omega) 5 rfl d (rfl) (by omega) dM_beginCall_19 (fun H locs hP hS => ?_)
  refine lv_aload_n hx hb dM_beginCall_20 rfl (lv_at hl 0 rfl) ?_
  refine mM_get CX hP 27 (by omega) wl_378 rfl dM_beginCall_21 ?_
  refine lv_aload_n hx hb dM_beginCall_24 rfl (lv_at hl 0 rfl) ?_
  refine mM_get CX hP 23 (by omega) wl_374 rfl dM_beginCall_25 ?_
  refine kx_topi (v' := μ 34 0) rfl ?_
  refine kx_topi (v' := nI d) (hd9) ?_
  refine lv_iconst (v := 0) hx hb dM_beginCall_28 (by decide) ?_
  refine mA_st CX hP hS 23 (by omega) (by omega) 5 rfl d (rfl) (by omega) dM_beginCall_29 (fun H locs hP hS => ?_)
  refine lv_aload_n hx hb dM_beginCall_30 rfl (lv_at hl 0 rfl) ?_
  refine lv_iload_n hx hb dM_beginCall_31 rfl (lv_at hl 1 rfl) ?_
  refine lv_iconst (v := 0) hx hb dM_beginCall_32 (by decide) ?_
  refine kx_callV1 (σ1 := upd2 (upd2 (upd2 μ 20 d x2) 22 d 0) 23 d 0) (v := .int (m_ord n (upd2 (upd2 (upd2 μ 20 d x2) 22 d 0) 23 d 0) x1 0)) (n := 2) (As := [.int x1, .int 0]) (rest := []) CX hP hS hl.1 (cM_ordered l D cA hJ (upd2 (upd2 (upd2 μ 20 d x2) 22 d 0) 23 d 0) x1 0 n hn hm9 hpl) wl_512 wl_514 wp_29 wl_5 wl_515 ⟨rfl, by decide +kernel, by decide +kernel, by decide +kernel⟩ (kw_R_ok (by omega) (by omega)) ⟨rfl, rfl⟩ (k := 0) (by omega) rfl rfl rfl rfl rfl (Nat.le_of_ble_eq_true rfl) dM_beginCall_33 (fun H locs hP hS => ?_)
  refine lv_istore_n (lv' := [(3, .int (m_ord n (upd2 (upd2 (upd2 μ 20 d x2) 22 d 0) 23 d 0) x1 0)), (0, .ref (ad 0)), (1, .int x1), (2, .int x2)]) hx hb dM_beginCall_36 rfl hl (by decide) rfl (fun ls hl => ?_)
  have loop_37 : ∀ (fu : Nat) (k : Nat) (v : MS) (r : Int32), (k ≤ 16) → (v = m_rows n d x1 (m_bc0 d μ x2) k) → (r = m_ord n (m_bc0 d μ x2) x1 (nI k)) → (m_len n (m_bc0 d μ x2) x1 = m_lenL n (m_bc0 d μ x2) x1 (17 - k) k) → 17 - k < fu → ∀ (H : Heap) (locs : List Loc), va_P D classes (kw_W 24 ad (wM cA ad v)) H → va_S (kw_A 24 ad s.heap.size) s.heap H locs → ∀ (ls : Array Slot), lv_has ls 4 [(0, .ref (ad 0)), (1, .int x1), (3, .int r)] → W p l e (kw_R 2) s m args below meth c H locs 0 0 (kx_Q below D 24 ad (wM cA ad) (fun r9 u9 => r9 = none ∧ m_beginC n d μ x1 x2 = u9) args s) (F0 m 37 ls []) := by
    intro fu37
    induction fu37 with
    | zero => intro k v r hk hv hr2 hlen hm37; exact absurd hm37 (Nat.not_lt_zero _)
    | succ fu37 ih37 =>
      intro k v r hk hv hr2 hlen hm37 H locs hP hS ls hl
      have hns : ns μ v := by rw [hv]; exact ns_t (m_bc0_ns d μ x2) (m_rows_ns n d x1 _ k)
      have hv34 : v 34 0 = nI d := by rw [hv, m_rows_34]; exact hd9
      have hv22 : v 22 d = nI k := by rw [hv]; exact m_rows_22 n d x1 _ (by simp [m_bc0, upd2_at]) k
      have hm31 : v 31 0 = nI n := by rw [ns_31 hns]; exact hm9
      refine lv_iload_n hx hb dM_beginCall_37 rfl (lv_at hl 2 rfl) ?_
      refine lv_if_lt (tgt := 95) hx hb dM_beginCall_38 (by decide) (fun c_38 => ?_) (fun c_38 => ?_)
      · skip
        refine lv_aload_n hx hb dM_beginCall_95 rfl (lv_at hl 0 rfl) ?_
        refine lv_dup hx hb dM_beginCall_96 rfl ?_
        refine mM_get CX hP 23 (by omega) wl_374 rfl dM_beginCall_97 ?_
        skip
        refine lv_iconst (v := 1) hx hb dM_beginCall_100 (by decide) ?_
        refine lv_iadd hx hb dM_beginCall_101 ?_
        refine mM_put CX hP hS 23 (by omega) 34 rfl wl_374 dM_beginCall_102 (fun H locs hP hS => ?_)
        exact kx_vret (σ' := upd2 v 34 0 ((v 34 0) + 1)) CX hP hS dM_beginCall_105 (by (have hL : m_len n (m_bc0 d μ x2) x1 = k := by (rw [hlen, show 17 - k = 16 - k + 1 by omega]; simp only [m_lenL]; rw [if_neg (by rw [← hr2, Int32.not_le]; exact c_38)])); refine ⟨rfl, ?_⟩; simp only [m_beginC, hL, ← hv]; rw [hv34, nI_1])
      · skip
        obtain ⟨ee, hee, hkn, hee2⟩ := m_ord_spec n hn (m_bc0 d μ x2) x1 k (by omega) (by rw [← hr2, ← Int32.not_lt]; exact c_38)
        refine lv_aload_n hx hb dM_beginCall_41 rfl (lv_at hl 0 rfl) ?_
        refine mM_get CX hP 25 (by omega) wl_376 rfl dM_beginCall_42 ?_
        refine lv_bipush (v := 16) hx hb dM_beginCall_45 (by decide) ?_
        refine lv_aload_n hx hb dM_beginCall_47 rfl (lv_at hl 0 rfl) ?_
        refine mM_get CX hP 23 (by omega) wl_374 rfl dM_beginCall_48 ?_
        refine kx_topi (v' := nI d) (hv34) ?_
        refine lv_imul hx hb dM_beginCall_51 ?_
        refine kx_topi (v' := nI (16 * d)) (pk_mul 16 d) ?_
        refine lv_aload_n hx hb dM_beginCall_52 rfl (lv_at hl 0 rfl) ?_
        refine mM_get CX hP 26 (by omega) wl_377 rfl dM_beginCall_53 ?_
        refine lv_aload_n hx hb dM_beginCall_56 rfl (lv_at hl 0 rfl) ?_
        refine mM_get CX hP 23 (by omega) wl_374 rfl dM_beginCall_57 ?_
        refine kx_topi (v' := nI d) (hv34) ?_
        refine mA_ld CX hP 22 (by omega) (by omega) 5 rfl d (rfl) (by omega) dM_beginCall_60 ?_
        refine kx_topi (v' := nI k) (hv22) ?_
        refine lv_iadd hx hb dM_beginCall_61 ?_
        refine kx_topi (v' := nI (16 * d + k)) (nI_add (16 * d) k) ?_
        refine lv_iload_n hx hb dM_beginCall_62 rfl (lv_at hl 2 rfl) ?_
        refine mA_st CX hP hS 21 (by omega) (by omega) 80 rfl (16 * d + k) (rfl) (by omega) dM_beginCall_63 (fun H locs hP hS => ?_)
        refine lv_aload_n hx hb dM_beginCall_64 rfl (lv_at hl 0 rfl) ?_
        refine mM_get CX hP 26 (by omega) wl_377 rfl dM_beginCall_65 ?_
        refine lv_aload_n hx hb dM_beginCall_68 rfl (lv_at hl 0 rfl) ?_
        refine mM_get CX hP 23 (by omega) wl_374 rfl dM_beginCall_69 ?_
        refine kx_topi (v' := v 34 0) rfl ?_
        refine kx_topi (v' := nI d) (hv34) ?_
        refine lv_dup2_11 hx hb dM_beginCall_72 rfl rfl ?_
        refine mA_ld CX hP 22 (by omega) (by omega) 5 rfl d (rfl) (by omega) dM_beginCall_73 ?_
        refine kx_topi (v' := v 22 d) rfl ?_
        refine kx_topi (v' := nI k) (hv22) ?_
        refine lv_iconst (v := 1) hx hb dM_beginCall_74 (by decide) ?_
        refine lv_iadd hx hb dM_beginCall_75 ?_
        refine kx_topi (v' := nI (k + 1)) (nI_add k 1) ?_
        refine mA_st CX hP hS 22 (by omega) (by omega) 5 rfl d (rfl) (by omega) dM_beginCall_76 (fun H locs hP hS => ?_)
        refine lv_aload_n hx hb dM_beginCall_77 rfl (lv_at hl 0 rfl) ?_
        refine lv_iload_n hx hb dM_beginCall_78 rfl (lv_at hl 1 rfl) ?_
        refine lv_aload_n hx hb dM_beginCall_79 rfl (lv_at hl 0 rfl) ?_
        refine mM_get CX hP 26 (by omega) wl_377 rfl dM_beginCall_80 ?_
        refine lv_aload_n hx hb dM_beginCall_83 rfl (lv_at hl 0 rfl) ?_
        refine mM_get CX hP 23 (by omega) wl_374 rfl dM_beginCall_84 ?_
        refine kx_topi (v' := v 34 0) rfl ?_
        refine kx_topi (v' := nI d) (hv34) ?_
        refine mA_ld CX hP 22 (by omega) (by omega) 5 rfl d (rfl) (by omega) dM_beginCall_87 ?_
        refine kx_topi (v' := nI (k + 1)) (upd2_s) ?_
        refine kx_callV1 (σ1 := upd2 (upd2 v 21 (16 * d + k) r) 22 d (nI (k + 1))) (v := .int (m_ord n (upd2 (upd2 v 21 (16 * d + k) r) 22 d (nI (k + 1))) x1 (nI (k + 1)))) (n := 2) (As := [.int x1, .int (nI (k + 1))]) (rest := []) CX hP hS hl.1 (cM_ordered l D cA hJ (upd2 (upd2 v 21 (16 * d + k) r) 22 d (nI (k + 1))) x1 (nI (k + 1)) n hn hm31 (ns_pl (ns_u (ns_u hns (by omega)) (by omega)) hpl)) wl_512 wl_514 wp_29 wl_5 wl_515 ⟨rfl, by decide +kernel, by decide +kernel, by decide +kernel⟩ (kw_R_ok (by omega) (by omega)) ⟨rfl, rfl⟩ (k := 0) (by omega) rfl rfl rfl rfl rfl (Nat.le_of_ble_eq_true rfl) dM_beginCall_88 (fun H locs hP hS => ?_)
        refine lv_istore_n (lv' := [(3, .int (m_ord n (upd2 (upd2 v 21 (16 * d + k) r) 22 d (nI (k + 1))) x1 (nI (k + 1)))), (0, .ref (ad 0)), (1, .int x1)]) hx hb dM_beginCall_91 rfl hl (by decide) rfl (fun ls hl => ?_)
        refine lv_goto (tgt := 37) hx hb dM_beginCall_92 (by decide) ?_
        exact ih37 (k + 1) (upd2 (upd2 v 21 (16 * d + k) r) 22 d (nI (k + 1))) (m_ord n (upd2 (upd2 v 21 (16 * d + k) r) 22 d (nI (k + 1))) x1 (nI (k + 1))) (by omega) (by rw [hv, hr2]; rfl) (by rw [ns_ord (ns_u (ns_u (show ns (m_bc0 d μ x2) v by rw [hv]; exact m_rows_ns _ _ _ _ _) (by omega)) (by omega))]) (by rw [hlen, show 17 - k = 17 - (k + 1) + 1 by omega]; simp only [m_lenL]; rw [if_pos (by rw [← hr2, ← Int32.not_lt]; exact c_38)]) (by omega) _ _ hP hS ls (lv_sub hl [1, 2, 0] rfl)
  exact loop_37 ((17 - 0) + 1) 0 (upd2 (upd2 (upd2 μ 20 d x2) 22 d 0) 23 d 0) (m_ord n (upd2 (upd2 (upd2 μ 20 d x2) 22 d 0) 23 d 0) x1 0) (by omega) rfl rfl rfl (Nat.lt_succ_self _) _ _ hP hS ls (lv_sub hl [1, 2, 0] rfl)
set_option maxRecDepth 100000 in
set_option maxHeartbeats 800000 in
theorem cM_fail (l : Launch) (D : va_G) (cA : Nat → ClassId) {ad : Nat → Nat} (hJ : kw_J 24 ad) (μ : MS) (i : Nat) (hi : i < 16) (x2 : Int32) : kx_Met l yM_fail (.code yM_fail bM_fail 3 none :: kw_T) (kw_R 1) D (kx_tys cA) 24 ad (wM cA ad) μ [.ref (ad 0), .int (nI i), .int x2] (fun r9 u9 => r9 = none ∧ m_fail μ i x2 = u9) := by
  have hl3 := lo3_lt (μ 32 0)
  refine kx_of hJ (by decide +kernel) (Nat.le_of_ble_eq_true rfl) ?_
  intro p e s m args below meth c CX ls hl hP hS
  obtain ⟨hx, hb, hr, hml, hown, hts, hlk, hK, hJ1, hZ⟩ := id CX
  have hl : lv_has ls 3 [(0, .ref (ad 0)), (1, .int (nI i)), (2, .int x2)] := hl
  refine lv_aload_n hx hb dM_fail_0 rfl (lv_at hl 0 rfl) ?_
  refine mM_get CX hP 13 (by omega) wl_364 rfl dM_fail_1 ?_
  refine lv_iload_n hx hb dM_fail_4 rfl (lv_at hl 1 rfl) ?_
  refine lv_dup2_11 hx hb dM_fail_5 rfl rfl ?_
  refine mA_ld CX hP 12 (by omega) (by omega) 16 rfl i (rfl) (by omega) dM_fail_6 ?_
  refine lv_iconst (v := 1) hx hb dM_fail_7 (by decide) ?_
  refine lv_iadd hx hb dM_fail_8 ?_
  refine mA_st CX hP hS 12 (by omega) (by omega) 16 rfl i (rfl) (by omega) dM_fail_9 (fun H locs hP hS => ?_)
  refine lv_aload_n hx hb dM_fail_10 rfl (lv_at hl 0 rfl) ?_
  refine mM_get CX hP 17 (by omega) wl_368 rfl dM_fail_11 ?_
  refine lv_iconst (v := 3) hx hb dM_fail_14 (by decide) ?_
  refine lv_aload_n hx hb dM_fail_15 rfl (lv_at hl 0 rfl) ?_
  refine mM_get CX hP 16 (by omega) wl_367 rfl dM_fail_16 ?_
  refine kx_topi (v' := μ 32 0) rfl ?_
  refine lv_bipush (v := 7) hx hb dM_fail_19 (by decide) ?_
  refine lv_iand hx hb dM_fail_21 ?_
  refine kx_topi (v' := nI (lo3 (μ 32 0))) (and7 _) ?_
  refine lv_imul hx hb dM_fail_22 ?_
  refine kx_topi (v' := nI (3 * lo3 (μ 32 0))) (pk_mul 3 _) ?_
  refine lv_iload_n hx hb dM_fail_23 rfl (lv_at hl 1 rfl) ?_
  refine mA_st CX hP hS 15 (by omega) (by omega) 24 rfl (3 * lo3 (μ 32 0)) (rfl) (by omega) dM_fail_24 (fun H locs hP hS => ?_)
  refine lv_aload_n hx hb dM_fail_25 rfl (lv_at hl 0 rfl) ?_
  refine mM_get CX hP 17 (by omega) wl_368 rfl dM_fail_26 ?_
  refine lv_iconst (v := 3) hx hb dM_fail_29 (by decide) ?_
  refine lv_aload_n hx hb dM_fail_30 rfl (lv_at hl 0 rfl) ?_
  refine mM_get CX hP 16 (by omega) wl_367 rfl dM_fail_31 ?_
  refine kx_topi (v' := μ 32 0) rfl ?_
  refine lv_bipush (v := 7) hx hb dM_fail_34 (by decide) ?_
  refine lv_iand hx hb dM_fail_36 ?_
  refine kx_topi (v' := nI (lo3 (μ 32 0))) (and7 _) ?_
  refine lv_imul hx hb dM_fail_37 ?_
  refine kx_topi (v' := nI (3 * lo3 (μ 32 0))) (pk_mul 3 _) ?_
  refine lv_iconst (v := 1) hx hb dM_fail_38 (by decide) ?_
  refine lv_iadd hx hb dM_fail_39 ?_
  refine kx_topi (v' := nI (3 * lo3 (μ 32 0) + 1)) (nI_add (3 * lo3 (μ 32 0)) 1) ?_
  refine lv_iload_n hx hb dM_fail_40 rfl (lv_at hl 2 rfl) ?_
  refine mA_st CX hP hS 15 (by omega) (by omega) 24 rfl (3 * lo3 (μ 32 0) + 1) (rfl) (by omega) dM_fail_41 (fun H locs hP hS => ?_)
  refine lv_aload_n hx hb dM_fail_42 rfl (lv_at hl 0 rfl) ?_
  refine mM_get CX hP 17 (by omega) wl_368 rfl dM_fail_43 ?_
  refine lv_iconst (v := 3) hx hb dM_fail_46 (by decide) ?_
  refine lv_aload_n hx hb dM_fail_47 rfl (lv_at hl 0 rfl) ?_
  refine mM_get CX hP 16 (by omega) wl_367 rfl dM_fail_48 ?_
  refine kx_topi (v' := μ 32 0) rfl ?_
  refine lv_bipush (v := 7) hx hb dM_fail_51 (by decide) ?_
  refine lv_iand hx hb dM_fail_53 ?_
  refine kx_topi (v' := nI (lo3 (μ 32 0))) (and7 _) ?_
  refine lv_imul hx hb dM_fail_54 ?_
  refine kx_topi (v' := nI (3 * lo3 (μ 32 0))) (pk_mul 3 _) ?_
  refine lv_iconst (v := 2) hx hb dM_fail_55 (by decide) ?_
  refine lv_iadd hx hb dM_fail_56 ?_
  refine kx_topi (v' := nI (3 * lo3 (μ 32 0) + 2)) (nI_add (3 * lo3 (μ 32 0)) 2) ?_
  refine lv_aload_n hx hb dM_fail_57 rfl (lv_at hl 0 rfl) ?_
  refine mM_get CX hP 28 (by omega) wl_379 rfl dM_fail_58 ?_
  refine kx_topi (v' := μ 35 0) rfl ?_
  refine mA_st CX hP hS 15 (by omega) (by omega) 24 rfl (3 * lo3 (μ 32 0) + 2) (rfl) (by omega) dM_fail_61 (fun H locs hP hS => ?_)
  refine lv_aload_n hx hb dM_fail_62 rfl (lv_at hl 0 rfl) ?_
  refine lv_dup hx hb dM_fail_63 rfl ?_
  refine mM_get CX hP 16 (by omega) wl_367 rfl dM_fail_64 ?_
  refine kx_topi (v' := μ 32 0) rfl ?_
  refine lv_iconst (v := 1) hx hb dM_fail_67 (by decide) ?_
  refine lv_iadd hx hb dM_fail_68 ?_
  refine mM_put CX hP hS 16 (by omega) 32 rfl wl_367 dM_fail_69 (fun H locs hP hS => ?_)
  refine lv_aload_n hx hb dM_fail_72 rfl (lv_at hl 0 rfl) ?_
  refine mM_get CX hP 13 (by omega) wl_364 rfl dM_fail_73 ?_
  refine lv_iload_n hx hb dM_fail_76 rfl (lv_at hl 1 rfl) ?_
  refine mA_ld CX hP 12 (by omega) (by omega) 16 rfl i (rfl) (by omega) dM_fail_77 ?_
  refine kx_topi (v' := (upd2 μ 12 i ((μ 12 i) + 1)) 12 i) rfl ?_
  refine lv_iconst (v := 3) hx hb dM_fail_78 (by decide) ?_
  refine lv_icmp_ge (tgt := 83) hx hb dM_fail_79 (by decide) (fun c_79 => ?_) (fun c_79 => ?_)
  · skip
    refine lv_aload_n hx hb dM_fail_83 rfl (lv_at hl 0 rfl) ?_
    refine mM_get CX hP 15 (by omega) wl_366 rfl dM_fail_84 ?_
    refine lv_iload_n hx hb dM_fail_87 rfl (lv_at hl 1 rfl) ?_
    refine lv_iconst (v := 1) hx hb dM_fail_88 (by decide) ?_
    refine mA_zst CX hP hS 14 (by omega) 16 rfl (by decide) i (rfl) (by omega) dM_fail_89 (fun H locs hP hS => ?_)
    refine lv_aload_n hx hb dM_fail_90 rfl (lv_at hl 0 rfl) ?_
    refine lv_bipush (v := 60) hx hb dM_fail_91 (by decide) ?_
    refine lv_iload_n hx hb dM_fail_93 rfl (lv_at hl 1 rfl) ?_
    refine lv_iadd hx hb dM_fail_94 ?_
    refine kx_topi (v' := nI (60 + i)) (nI_add 60 i) ?_
    refine kx_callV0 (σ1 := m_tell (upd2 (upd2 (upd2 (upd2 (upd2 (upd2 μ 12 i ((μ 12 i) + 1)) 15 (3 * lo3 (μ 32 0)) (nI i)) 15 (3 * lo3 (μ 32 0) + 1) x2) 15 (3 * lo3 (μ 32 0) + 2) (μ 35 0)) 32 0 ((μ 32 0) + 1)) 14 i 1) (nI (60 + i))) (n := 1) (As := [.int (nI (60 + i))]) (rest := []) CX hP hS hl.1 (cM_tell l D cA hJ (upd2 (upd2 (upd2 (upd2 (upd2 (upd2 μ 12 i ((μ 12 i) + 1)) 15 (3 * lo3 (μ 32 0)) (nI i)) 15 (3 * lo3 (μ 32 0) + 1) x2) 15 (3 * lo3 (μ 32 0) + 2) (μ 35 0)) 32 0 ((μ 32 0) + 1)) 14 i 1) (nI (60 + i))) wl_484 wl_486 wp_25 wl_5 wl_487 ⟨rfl, by decide +kernel, by decide +kernel, by decide +kernel⟩ (kw_R_ok (by omega) (by omega)) ⟨rfl, rfl⟩ (k := 0) (by omega) rfl rfl rfl rfl rfl (Nat.le_of_ble_eq_true rfl) dM_fail_95 (fun H locs hP hS => ?_)
    exact kx_vret (σ' := m_tell (upd2 (upd2 (upd2 (upd2 (upd2 (upd2 μ 12 i ((μ 12 i) + 1)) 15 (3 * lo3 (μ 32 0)) (nI i)) 15 (3 * lo3 (μ 32 0) + 1) x2) 15 (3 * lo3 (μ 32 0) + 2) (μ 35 0)) 32 0 ((μ 32 0) + 1)) 14 i 1) (nI (60 + i))) CX hP hS dM_fail_98 (by refine ⟨rfl, ?_⟩; rw [m_fail]; exact if_pos c_79)
  · skip
    exact kx_vret (σ' := upd2 (upd2 (upd2 (upd2 (upd2 μ 12 i ((μ 12 i) + 1)) 15 (3 * lo3 (μ 32 0)) (nI i)) 15 (3 * lo3 (μ 32 0) + 1) x2) 15 (3 * lo3 (μ 32 0) + 2) (μ 35 0)) 32 0 ((μ 32 0) + 1)) CX hP hS dM_fail_82 (by refine ⟨rfl, ?_⟩; rw [m_fail]; exact if_neg c_79)
set_option maxRecDepth 100000 in
set_option maxHeartbeats 800000 in
theorem cM_done (l : Launch) (D : va_G) (cA : Nat → ClassId) {ad : Nat → Nat} (hJ : kw_J 24 ad) (μ : MS) (i : Nat) (hi : i < 16) (n : Nat) (hn : n ≤ 16) (hm9 : μ 31 0 = nI n) (hpl : plM μ) (d : Nat) (hd : d < 4) (hd9 : μ 34 0 = nI (d + 1)) : kx_Met l yM_done (.code yM_done bM_done 4 (Option.some .int) :: kw_T) (kw_R 3) D (kx_tys cA) 24 ad (wM cA ad) μ [.ref (ad 0), .int (nI i)] (fun r9 u9 => r9 = some (.int ((m_done n d μ i).1)) ∧ (m_done n d μ i).2 = u9) := by
  refine kx_of hJ (by decide +kernel) (Nat.le_of_ble_eq_true rfl) ?_
  intro p e s m args below meth c CX ls hl hP hS
  obtain ⟨hx, hb, hr, hml, hown, hts, hlk, hK, hJ1, hZ⟩ := id CX
  have hl : lv_has ls 4 [(0, .ref (ad 0)), (1, .int (nI i))] := hl
  refine lv_aload_n hx hb dM_done_0 rfl (lv_at hl 0 rfl) ?_
  refine mM_get CX hP 24 (by omega) wl_375 rfl dM_done_1 ?_
  refine lv_aload_n hx hb dM_done_4 rfl (lv_at hl 0 rfl) ?_
  refine mM_get CX hP 23 (by omega) wl_374 rfl dM_done_5 ?_
  refine kx_topi (v' := nI (d + 1)) (hd9) ?_
  refine lv_iconst (v := 1) hx hb dM_done_8 (by decide) ?_
  refine lv_isub hx hb dM_done_9 ?_
  refine mA_ld CX hP 20 (by omega) (by omega) 5 rfl d (nI_s1 d) (by omega) dM_done_10 ?_
  refine lv_istore_n (lv' := [(2, .int (μ 20 d)), (0, .ref (ad 0)), (1, .int (nI i))]) hx hb dM_done_11 rfl hl (by decide) rfl (fun ls hl => ?_)
  refine lv_aload_n hx hb dM_done_12 rfl (lv_at hl 1 rfl) ?_
  refine mM_get CX hP 11 (by omega) wl_362 rfl dM_done_13 ?_
  refine lv_iload_n hx hb dM_done_16 rfl (lv_at hl 2 rfl) ?_
  refine mA_ld CX hP 10 (by omega) (by omega) 16 rfl i (rfl) (by omega) dM_done_17 ?_
  refine lv_istore_n (lv' := [(3, .int (μ 10 i)), (2, .int (μ 20 d)), (0, .ref (ad 0)), (1, .int (nI i))]) hx hb dM_done_18 rfl hl (by decide) rfl (fun ls hl => ?_)
  refine lv_aload_n hx hb dM_done_19 rfl (lv_at hl 2 rfl) ?_
  refine lv_iconst (v := (-1)) hx hb dM_done_20 (by decide) ?_
  refine mM_put CX hP hS 28 (by omega) 35 rfl wl_379 dM_done_21 (fun H locs hP hS => ?_)
  refine lv_aload_n hx hb dM_done_24 rfl (lv_at hl 2 rfl) ?_
  refine mM_get CX hP 10 (by omega) wl_361 rfl dM_done_25 ?_
  refine lv_iload_n hx hb dM_done_28 rfl (lv_at hl 3 rfl) ?_
  refine mA_ld CX hP 9 (by omega) (by omega) 16 rfl i (rfl) (by omega) dM_done_29 ?_
  refine kx_topi (v' := μ 9 i) rfl ?_
  by_cases k_30_0 : μ 9 i = 0
  · refine lv_tableIn (tgt := 76) (off := 46) hx hb dM_done_30 (by rw [k_30_0]; decide) (by rw [k_30_0]; decide) (by rw [k_30_0]; decide) (by decide) ?_
    refine lv_aload_n hx hb dM_done_76 rfl (lv_at hl 2 rfl) ?_
    refine mM_get CX hP 24 (by omega) wl_375 rfl dM_done_77 ?_
    refine lv_aload_n hx hb dM_done_80 rfl (lv_at hl 2 rfl) ?_
    refine mM_get CX hP 23 (by omega) wl_374 rfl dM_done_81 ?_
    refine kx_topi (v' := μ 34 0) rfl ?_
    refine kx_topi (v' := nI (d + 1)) (hd9) ?_
    refine lv_iconst (v := 1) hx hb dM_done_84 (by decide) ?_
    refine lv_isub hx hb dM_done_85 ?_
    refine lv_iload_n hx hb dM_done_86 rfl (lv_at hl 1 rfl) ?_
    refine lv_iload_n hx hb dM_done_87 rfl (lv_at hl 0 rfl) ?_
    refine lv_iadd hx hb dM_done_88 ?_
    refine mA_st CX hP hS 20 (by omega) (by omega) 5 rfl d (nI_s1 d) (by omega) dM_done_89 (fun H locs hP hS => ?_)
    refine lv_iconst (v := 0) hx hb dM_done_90 (by decide) ?_
    exact kx_iret (σ' := upd2 (upd2 μ 35 0 (-1)) 20 d ((μ 20 d) + (μ 10 i))) CX hP hS dM_done_91 (by constructor <;> simp [bI, k_30_0, m_done])
  by_cases k_30_1 : μ 9 i = 1
  · refine lv_tableIn (tgt := 92) (off := 62) hx hb dM_done_30 (by rw [k_30_1]; decide) (by rw [k_30_1]; decide) (by rw [k_30_1]; decide) (by decide) ?_
    refine lv_aload_n hx hb dM_done_92 rfl (lv_at hl 2 rfl) ?_
    refine lv_iload_n hx hb dM_done_93 rfl (lv_at hl 1 rfl) ?_
    refine lv_iload_n hx hb dM_done_94 rfl (lv_at hl 0 rfl) ?_
    refine kx_callV1 (σ1 := (m_divided d (upd2 μ 35 0 (-1)) (μ 20 d) (μ 10 i)).2) (v := .int ((m_divided d (upd2 μ 35 0 (-1)) (μ 20 d) (μ 10 i)).1)) (n := 2) (As := [.int (μ 20 d), .int (μ 10 i)]) (rest := []) CX hP hS hl.1 (cM_divided l D cA hJ (upd2 μ 35 0 (-1)) (μ 20 d) (μ 10 i) d hd hd9) wl_524 wl_526 wp_32 wl_5 wl_527 ⟨rfl, by decide +kernel, by decide +kernel, by decide +kernel⟩ (kw_R_ok (by omega) (by omega)) ⟨rfl, rfl⟩ (k := 0) (by omega) rfl rfl rfl rfl rfl (Nat.le_of_ble_eq_true rfl) dM_done_95 (fun H locs hP hS => ?_)
    exact kx_iret (σ' := (m_divided d (upd2 μ 35 0 (-1)) (μ 20 d) (μ 10 i)).2) CX hP hS dM_done_98 (by constructor <;> simp [bI, k_30_0, k_30_1, m_done])
  by_cases k_30_2 : μ 9 i = 2
  · refine lv_tableIn (tgt := 99) (off := 69) hx hb dM_done_30 (by rw [k_30_2]; decide) (by rw [k_30_2]; decide) (by rw [k_30_2]; decide) (by decide) ?_
    refine lv_aload_n hx hb dM_done_99 rfl (lv_at hl 2 rfl) ?_
    refine lv_iload_n hx hb dM_done_100 rfl (lv_at hl 1 rfl) ?_
    refine lv_iload_n hx hb dM_done_101 rfl (lv_at hl 0 rfl) ?_
    refine lv_ixor hx hb dM_done_102 ?_
    refine lv_bipush (v := 15) hx hb dM_done_103 (by decide) ?_
    refine lv_iand hx hb dM_done_105 ?_
    have hl4 := lo4_lt (μ 20 d ^^^ μ 10 i)
    refine kx_topi (v' := nI (lo4 ((μ 20 d) ^^^ (μ 10 i)))) (and15 _) ?_
    refine kx_callV1 (σ1 := (m_looked d (upd2 μ 35 0 (-1)) (lo4 ((μ 20 d) ^^^ (μ 10 i)))).2) (v := .int ((m_looked d (upd2 μ 35 0 (-1)) (lo4 ((μ 20 d) ^^^ (μ 10 i)))).1)) (n := 1) (As := [.int (nI (lo4 ((μ 20 d) ^^^ (μ 10 i))))]) (rest := []) CX hP hS hl.1 (cM_looked l D cA hJ (upd2 μ 35 0 (-1)) (lo4 ((μ 20 d) ^^^ (μ 10 i))) (by omega) d hd hd9) wl_528 wl_530 wp_33 wl_5 wl_531 ⟨rfl, by decide +kernel, by decide +kernel, by decide +kernel⟩ (kw_R_ok (by omega) (by omega)) ⟨rfl, rfl⟩ (k := 0) (by omega) rfl rfl rfl rfl rfl (Nat.le_of_ble_eq_true rfl) dM_done_106 (fun H locs hP hS => ?_)
    exact kx_iret (σ' := (m_looked d (upd2 μ 35 0 (-1)) (lo4 ((μ 20 d) ^^^ (μ 10 i)))).2) CX hP hS dM_done_109 (by constructor <;> simp [bI, k_30_0, k_30_1, k_30_2, m_done])
  by_cases k_30_3 : μ 9 i = 3
  · refine lv_tableIn (tgt := 110) (off := 80) hx hb dM_done_30 (by rw [k_30_3]; decide) (by rw [k_30_3]; decide) (by rw [k_30_3]; decide) (by decide) ?_
    refine lv_aload_n hx hb dM_done_110 rfl (lv_at hl 2 rfl) ?_
    refine lv_iload_n hx hb dM_done_111 rfl (lv_at hl 1 rfl) ?_
    refine lv_iload_n hx hb dM_done_112 rfl (lv_at hl 0 rfl) ?_
    refine kx_callV1 (σ1 := (m_asked d (upd2 μ 35 0 (-1)) (μ 20 d) (μ 10 i)).2) (v := .int ((m_asked d (upd2 μ 35 0 (-1)) (μ 20 d) (μ 10 i)).1)) (n := 2) (As := [.int (μ 20 d), .int (μ 10 i)]) (rest := []) CX hP hS hl.1 (cM_asked l D cA hJ (upd2 μ 35 0 (-1)) (μ 20 d) (μ 10 i) d hd hd9) wl_535 wl_537 wp_34 wl_5 wl_538 ⟨rfl, by decide +kernel, by decide +kernel, by decide +kernel⟩ (kw_R_ok (by omega) (by omega)) ⟨rfl, rfl⟩ (k := 0) (by omega) rfl rfl rfl rfl rfl (Nat.le_of_ble_eq_true rfl) dM_done_113 (fun H locs hP hS => ?_)
    exact kx_iret (σ' := (m_asked d (upd2 μ 35 0 (-1)) (μ 20 d) (μ 10 i)).2) CX hP hS dM_done_116 (by constructor <;> simp [bI, k_30_0, k_30_1, k_30_2, k_30_3, m_done])
  by_cases k_30_4 : μ 9 i = 4
  · refine lv_tableIn (tgt := 117) (off := 87) hx hb dM_done_30 (by rw [k_30_4]; decide) (by rw [k_30_4]; decide) (by rw [k_30_4]; decide) (by decide) ?_
    refine lv_iconst (v := 5) hx hb dM_done_117 (by decide) ?_
    exact kx_iret (σ' := upd2 μ 35 0 (-1)) CX hP hS dM_done_118 (by constructor <;> simp [bI, k_30_0, k_30_1, k_30_2, k_30_3, k_30_4, m_done])
  by_cases k_30_5 : μ 9 i = 5
  · refine lv_tableIn (tgt := 119) (off := 89) hx hb dM_done_30 (by rw [k_30_5]; decide) (by rw [k_30_5]; decide) (by rw [k_30_5]; decide) (by decide) ?_
    refine lv_aload_n hx hb dM_done_119 rfl (lv_at hl 2 rfl) ?_
    refine lv_aload_n hx hb dM_done_120 rfl (lv_at hl 2 rfl) ?_
    refine mM_get CX hP 8 (by omega) wl_359 rfl dM_done_121 ?_
    refine lv_iload_n hx hb dM_done_124 rfl (lv_at hl 3 rfl) ?_
    refine mA_ld CX hP 7 (by omega) (by omega) 16 rfl i (rfl) (by omega) dM_done_125 ?_
    refine kx_topi (v' := μ 7 i) rfl ?_
    refine mM_put CX hP hS 28 (by omega) 35 rfl wl_379 dM_done_126 (fun H locs hP hS => ?_)
    refine lv_aload_n hx hb dM_done_129 rfl (lv_at hl 2 rfl) ?_
    refine mM_get CX hP 23 (by omega) wl_374 rfl dM_done_130 ?_
    refine kx_topi (v' := μ 34 0) rfl ?_
    refine kx_topi (v' := nI (d + 1)) (hd9) ?_
    refine lv_iconst (v := 4) hx hb dM_done_133 (by decide) ?_
    refine lv_icmp_ne (tgt := 140) hx hb dM_done_134 (by decide) (fun c_134 => ?_) (fun c_134 => ?_)
    · have c_134i := c_134
      have c_134 : ¬ (d + 1 = 4) := fun hq9 => c_134 ((nI_eq' (a := d + 1) (b := 4) (by omega) (by omega)).mpr hq9)
      refine lv_aload_n hx hb dM_done_140 rfl (lv_at hl 2 rfl) ?_
      refine lv_iload_n hx hb dM_done_141 rfl (lv_at hl 0 rfl) ?_
      refine lv_iconst (v := 3) hx hb dM_done_142 (by decide) ?_
      refine lv_iand hx hb dM_done_143 ?_
      refine lv_iconst (v := 3) hx hb dM_done_144 (by decide) ?_
      refine lv_icmp_ne (tgt := 152) hx hb dM_done_145 (by decide) (fun c_145 => ?_) (fun c_145 => ?_)
      · skip
        refine lv_iload_n hx hb dM_done_152 rfl (lv_at hl 0 rfl) ?_
        refine lv_iconst (v := 3) hx hb dM_done_153 (by decide) ?_
        refine lv_iand hx hb dM_done_154 ?_
        refine lv_iload_n hx hb dM_done_155 rfl (lv_at hl 1 rfl) ?_
        refine lv_iconst (v := 1) hx hb dM_done_156 (by decide) ?_
        refine lv_iadd hx hb dM_done_157 ?_
        refine kx_callV0 (σ1 := m_beginC n (d + 1) (upd2 (upd2 μ 35 0 (-1)) 35 0 (μ 7 i)) ((μ 10 i) &&& 3) ((μ 20 d) + 1)) (n := 2) (As := [.int ((μ 10 i) &&& 3), .int ((μ 20 d) + 1)]) (rest := []) CX hP hS hl.1 (cM_beginCall l D cA hJ (upd2 (upd2 μ 35 0 (-1)) 35 0 (μ 7 i)) ((μ 10 i) &&& 3) ((μ 20 d) + 1) n hn hm9 hpl (d + 1) (by omega) hd9) wl_508 wl_510 wp_28 wl_5 wl_511 ⟨rfl, by decide +kernel, by decide +kernel, by decide +kernel⟩ (kw_R_ok (by omega) (by omega)) ⟨rfl, rfl⟩ (k := 0) (by omega) rfl rfl rfl rfl rfl (Nat.le_of_ble_eq_true rfl) dM_done_158 (fun H locs hP hS => ?_)
        refine lv_bipush (v := 8) hx hb dM_done_161 (by decide) ?_
        exact kx_iret (σ' := m_beginC n (d + 1) (upd2 (upd2 μ 35 0 (-1)) 35 0 (μ 7 i)) ((μ 10 i) &&& 3) ((μ 20 d) + 1)) CX hP hS dM_done_163 (by constructor <;> simp [bI, k_30_0, k_30_1, k_30_2, k_30_3, k_30_4, k_30_5, c_134, c_134i, c_145, m_done])
      · skip
        refine lv_iconst (v := 0) hx hb dM_done_148 (by decide) ?_
        refine lv_goto (tgt := 155) hx hb dM_done_149 (by decide) ?_
        refine lv_iload_n hx hb dM_done_155 rfl (lv_at hl 1 rfl) ?_
        refine lv_iconst (v := 1) hx hb dM_done_156 (by decide) ?_
        refine lv_iadd hx hb dM_done_157 ?_
        refine kx_callV0 (σ1 := m_beginC n (d + 1) (upd2 (upd2 μ 35 0 (-1)) 35 0 (μ 7 i)) 0 ((μ 20 d) + 1)) (n := 2) (As := [.int 0, .int ((μ 20 d) + 1)]) (rest := []) CX hP hS hl.1 (cM_beginCall l D cA hJ (upd2 (upd2 μ 35 0 (-1)) 35 0 (μ 7 i)) 0 ((μ 20 d) + 1) n hn hm9 hpl (d + 1) (by omega) hd9) wl_508 wl_510 wp_28 wl_5 wl_511 ⟨rfl, by decide +kernel, by decide +kernel, by decide +kernel⟩ (kw_R_ok (by omega) (by omega)) ⟨rfl, rfl⟩ (k := 0) (by omega) rfl rfl rfl rfl rfl (Nat.le_of_ble_eq_true rfl) dM_done_158 (fun H locs hP hS => ?_)
        refine lv_bipush (v := 8) hx hb dM_done_161 (by decide) ?_
        exact kx_iret (σ' := m_beginC n (d + 1) (upd2 (upd2 μ 35 0 (-1)) 35 0 (μ 7 i)) 0 ((μ 20 d) + 1)) CX hP hS dM_done_163 (by constructor <;> simp [bI, k_30_0, k_30_1, k_30_2, k_30_3, k_30_4, k_30_5, c_134, c_134i, c_145, m_done])
    · have c_134i := c_134
      have c_134 : d + 1 = 4 := (nI_eq' (a := d + 1) (b := 4) (by omega) (by omega)).mp c_134
      refine lv_bipush (v := 7) hx hb dM_done_137 (by decide) ?_
      exact kx_iret (σ' := upd2 (upd2 μ 35 0 (-1)) 35 0 (μ 7 i)) CX hP hS dM_done_139 (by constructor <;> simp [bI, k_30_0, k_30_1, k_30_2, k_30_3, k_30_4, k_30_5, c_134, c_134i, m_done])
  by_cases k_30_6 : μ 9 i = 6
  · refine lv_tableIn (tgt := 164) (off := 134) hx hb dM_done_30 (by rw [k_30_6]; decide) (by rw [k_30_6]; decide) (by rw [k_30_6]; decide) (by decide) ?_
    refine lv_iload_n hx hb dM_done_164 rfl (lv_at hl 1 rfl) ?_
    refine lv_iload_n hx hb dM_done_165 rfl (lv_at hl 0 rfl) ?_
    refine lv_icmp_ge (tgt := 173) hx hb dM_done_166 (by decide) (fun c_166 => ?_) (fun c_166 => ?_)
    · skip
      refine lv_bipush (v := 6) hx hb dM_done_173 (by decide) ?_
      exact kx_iret (σ' := upd2 μ 35 0 (-1)) CX hP hS dM_done_175 (by constructor <;> simp [bI, k_30_0, k_30_1, k_30_2, k_30_3, k_30_4, k_30_5, k_30_6, c_166, m_done])
    · skip
      refine lv_iconst (v := 0) hx hb dM_done_169 (by decide) ?_
      refine lv_goto (tgt := 175) hx hb dM_done_170 (by decide) ?_
      exact kx_iret (σ' := upd2 μ 35 0 (-1)) CX hP hS dM_done_175 (by constructor <;> simp [bI, k_30_0, k_30_1, k_30_2, k_30_3, k_30_4, k_30_5, k_30_6, c_166, m_done])
  by_cases k_30_7 : μ 9 i = 7
  · refine lv_tableIn (tgt := 176) (off := 146) hx hb dM_done_30 (by rw [k_30_7]; decide) (by rw [k_30_7]; decide) (by rw [k_30_7]; decide) (by decide) ?_
    refine lv_aload_n hx hb dM_done_176 rfl (lv_at hl 2 rfl) ?_
    refine mM_get CX hP 24 (by omega) wl_375 rfl dM_done_177 ?_
    refine lv_aload_n hx hb dM_done_180 rfl (lv_at hl 2 rfl) ?_
    refine mM_get CX hP 23 (by omega) wl_374 rfl dM_done_181 ?_
    refine kx_topi (v' := μ 34 0) rfl ?_
    refine kx_topi (v' := nI (d + 1)) (hd9) ?_
    refine lv_iconst (v := 1) hx hb dM_done_184 (by decide) ?_
    refine lv_isub hx hb dM_done_185 ?_
    refine lv_iload_n hx hb dM_done_186 rfl (lv_at hl 1 rfl) ?_
    refine lv_aload_n hx hb dM_done_187 rfl (lv_at hl 2 rfl) ?_
    refine mM_get CX hP 14 (by omega) wl_365 rfl dM_done_188 ?_
    refine lv_iload_n hx hb dM_done_191 rfl (lv_at hl 3 rfl) ?_
    refine mA_ld CX hP 13 (by omega) (by omega) 16 rfl i (rfl) (by omega) dM_done_192 ?_
    refine kx_topi (v' := μ 13 i) rfl ?_
    refine lv_iadd hx hb dM_done_193 ?_
    refine mA_st CX hP hS 20 (by omega) (by omega) 5 rfl d (nI_s1 d) (by omega) dM_done_194 (fun H locs hP hS => ?_)
    refine lv_iconst (v := 0) hx hb dM_done_195 (by decide) ?_
    exact kx_iret (σ' := upd2 (upd2 μ 35 0 (-1)) 20 d ((μ 20 d) + (μ 13 i))) CX hP hS dM_done_196 (by constructor <;> simp [bI, k_30_0, k_30_1, k_30_2, k_30_3, k_30_4, k_30_5, k_30_6, k_30_7, m_done])
  refine lv_tableOut (tgt := 197) hx hb dM_done_30 (kx_sw7 k_30_0 k_30_1 k_30_2 k_30_3 k_30_4 k_30_5 k_30_6 k_30_7) (by decide) ?_
  refine lv_aload_n hx hb dM_done_197 rfl (lv_at hl 2 rfl) ?_
  refine lv_bipush (v := 40) hx hb dM_done_198 (by decide) ?_
  refine lv_iload_n hx hb dM_done_200 rfl (lv_at hl 3 rfl) ?_
  refine lv_iadd hx hb dM_done_201 ?_
  refine kx_topi (v' := nI (40 + i)) (nI_add 40 i) ?_
  refine kx_callV0 (σ1 := m_tell (upd2 μ 35 0 (-1)) (nI (40 + i))) (n := 1) (As := [.int (nI (40 + i))]) (rest := []) CX hP hS hl.1 (cM_tell l D cA hJ (upd2 μ 35 0 (-1)) (nI (40 + i))) wl_484 wl_486 wp_25 wl_5 wl_487 ⟨rfl, by decide +kernel, by decide +kernel, by decide +kernel⟩ (kw_R_ok (by omega) (by omega)) ⟨rfl, rfl⟩ (k := 0) (by omega) rfl rfl rfl rfl rfl (Nat.le_of_ble_eq_true rfl) dM_done_202 (fun H locs hP hS => ?_)
  refine lv_iload_n hx hb dM_done_205 rfl (lv_at hl 1 rfl) ?_
  refine lv_iload_n hx hb dM_done_206 rfl (lv_at hl 0 rfl) ?_
  refine lv_icmp_ne (tgt := 213) hx hb dM_done_207 (by decide) (fun c_207 => ?_) (fun c_207 => ?_)
  · skip
    refine lv_aload_n hx hb dM_done_213 rfl (lv_at hl 2 rfl) ?_
    refine mM_get CX hP 24 (by omega) wl_375 rfl dM_done_214 ?_
    refine lv_aload_n hx hb dM_done_217 rfl (lv_at hl 2 rfl) ?_
    refine mM_get CX hP 23 (by omega) wl_374 rfl dM_done_218 ?_
    refine kx_topi (v' := nI (d + 1)) (by first | exact hd9 | (simp [m_tell, upd2_at]; exact hd9)) ?_
    refine lv_iconst (v := 1) hx hb dM_done_221 (by decide) ?_
    refine lv_isub hx hb dM_done_222 ?_
    refine lv_iconst (v := 2) hx hb dM_done_223 (by decide) ?_
    refine lv_iload_n hx hb dM_done_224 rfl (lv_at hl 1 rfl) ?_
    refine lv_imul hx hb dM_done_225 ?_
    refine mA_st CX hP hS 20 (by omega) (by omega) 5 rfl d (nI_s1 d) (by omega) dM_done_226 (fun H locs hP hS => ?_)
    refine lv_iconst (v := 0) hx hb dM_done_227 (by decide) ?_
    exact kx_iret (σ' := upd2 (m_tell (upd2 μ 35 0 (-1)) (nI (40 + i))) 20 d (2 * (μ 20 d))) CX hP hS dM_done_228 (by constructor <;> simp [bI, k_30_0, k_30_1, k_30_2, k_30_3, k_30_4, k_30_5, k_30_6, k_30_7, c_207, m_done])
  · skip
    refine lv_bipush (v := 6) hx hb dM_done_210 (by decide) ?_
    exact kx_iret (σ' := m_tell (upd2 μ 35 0 (-1)) (nI (40 + i))) CX hP hS dM_done_212 (by constructor <;> simp [bI, k_30_0, k_30_1, k_30_2, k_30_3, k_30_4, k_30_5, k_30_6, k_30_7, c_207, m_done])
set_option maxRecDepth 100000 in
set_option maxHeartbeats 800000 in
theorem cM_call (l : Launch) (D : va_G) (cA : Nat → ClassId) {ad : Nat → Nat} (hJ : kw_J 24 ad) (μ : MS) (x1 x2 : Int32) (n : Nat) (hn : n ≤ 16) (hm9 : μ 31 0 = nI n) (hpl : plM μ) (R : Int32) (U : MS) (hst : m_clOK n μ x1 x2 R U) : kx_Met l yM_call (.code yM_call bM_call 6 (Option.some .int) :: kw_T) (kw_R 4) D (kx_tys cA) 24 ad (wM cA ad) μ [.ref (ad 0), .int x1, .int x2] (fun r9 u9 => r9 = some (.int R) ∧ U = u9) := by
  refine kx_of hJ (by decide +kernel) (Nat.le_of_ble_eq_true rfl) ?_
  intro p e s m args below meth c CX ls hl hP hS
  obtain ⟨hx, hb, hr, hml, hown, hts, hlk, hK, hJ1, hZ⟩ := id CX
  have hl : lv_has ls 6 [(0, .ref (ad 0)), (1, .int x1), (2, .int x2)] := hl
  refine lv_iload_n hx hb dM_call_0 rfl (lv_at hl 1 rfl) ?_
  refine lv_iconst (v := 0) hx hb dM_call_1 (by decide) ?_
  refine lv_iconst (v := 2) hx hb dM_call_2 (by decide) ?_
  refine kx_callS1 (σ1 := μ) (v := .int (bI (inR x1 0 2 = true))) (n := 3) (As := [.int x1, .int 0, .int 2]) (rest := []) CX hP hS hl.1 (cM_in l D cA hJ μ x1 0 2) wl_445 wl_446 wl_5 wl_447 ⟨by decide +kernel, by decide +kernel, by decide +kernel⟩ (kw_R_ok (by omega) (by omega)) ⟨rfl, rfl⟩ rfl rfl (Nat.le_of_ble_eq_true rfl) dM_call_3 (fun H locs hP hS => ?_)
  refine lv_if_ne (tgt := 11) hx hb dM_call_6 (by decide) (fun c_6 => ?_) (fun c_6 => ?_)
  · have c_6 := bI_ne0.mp c_6
    obtain ⟨g0, hg0⟩ := hst.2 c_6
    refine lv_aload_n hx hb dM_call_11 rfl (lv_at hl 0 rfl) ?_
    refine lv_iconst (v := 0) hx hb dM_call_12 (by decide) ?_
    refine mM_put CX hP hS 23 (by omega) 34 rfl wl_374 dM_call_13 (fun H locs hP hS => ?_)
    refine lv_aload_n hx hb dM_call_16 rfl (lv_at hl 0 rfl) ?_
    refine lv_iload_n hx hb dM_call_17 rfl (lv_at hl 1 rfl) ?_
    refine lv_iload_n hx hb dM_call_18 rfl (lv_at hl 2 rfl) ?_
    refine kx_callV0 (σ1 := m_beginC n 0 (upd2 μ 34 0 0) x1 x2) (n := 2) (As := [.int x1, .int x2]) (rest := []) CX hP hS hl.1 (cM_beginCall l D cA hJ (upd2 μ 34 0 0) x1 x2 n hn hm9 hpl 0 (by omega) rfl) wl_508 wl_510 wp_28 wl_5 wl_511 ⟨rfl, by decide +kernel, by decide +kernel, by decide +kernel⟩ (kw_R_ok (by omega) (by omega)) ⟨rfl, rfl⟩ (k := 0) (by omega) rfl rfl rfl rfl rfl (Nat.le_of_ble_eq_true rfl) dM_call_19 (fun H locs hP hS => ?_)
    have loop_22 : ∀ (fu : Nat) (g : Nat) (v : MS), (m_cok n g v R U) → g < fu → ∀ (H : Heap) (locs : List Loc), va_P D classes (kw_W 24 ad (wM cA ad v)) H → va_S (kw_A 24 ad s.heap.size) s.heap H locs → ∀ (ls : Array Slot), lv_has ls 6 [(0, .ref (ad 0))] → W p l e (kw_R 4) s m args below meth c H locs 0 0 (kx_Q below D 24 ad (wM cA ad) (fun r9 u9 => r9 = some (.int R) ∧ U = u9) args s) (F0 m 22 ls []) := by
      intro fu22
      induction fu22 with
      | zero => intro g v hrun hm22; exact absurd hm22 (Nat.not_lt_zero _)
      | succ fu22 ih22 =>
        intro g v hrun hm22 H locs hP hS ls hl
        obtain ⟨g1, rfl⟩ : ∃ g1, g = g1 + 1 := by
          cases g with
          | zero => exact hrun.elim
          | succ g1 => exact ⟨g1, rfl⟩
        obtain ⟨hm31, hpl9, d, t, L, hd4, ht16, hL16, hv34, hv23, hv22, hret, hup, hdn⟩ := hrun
        refine lv_aload_n hx hb dM_call_22 rfl (lv_at hl 0 rfl) ?_
        refine mM_get CX hP 23 (by omega) wl_374 rfl dM_call_23 ?_
        refine kx_topi (v' := nI (d + 1)) (hv34) ?_
        refine lv_iconst (v := 1) hx hb dM_call_26 (by decide) ?_
        refine lv_isub hx hb dM_call_27 ?_
        refine kx_topi (v' := nI d) (nI_s1 d) ?_
        refine lv_istore_n (lv' := [(3, .int (nI d)), (0, .ref (ad 0))]) hx hb dM_call_28 rfl hl (by decide) rfl (fun ls hl => ?_)
        refine lv_aload_n hx hb dM_call_29 rfl (lv_at hl 1 rfl) ?_
        refine mM_get CX hP 27 (by omega) wl_378 rfl dM_call_30 ?_
        refine lv_iload_n hx hb dM_call_33 rfl (lv_at hl 0 rfl) ?_
        refine mA_ld CX hP 23 (by omega) (by omega) 5 rfl d (rfl) (by omega) dM_call_34 ?_
        refine kx_topi (v' := nI t) (hv23) ?_
        refine lv_aload_n hx hb dM_call_35 rfl (lv_at hl 1 rfl) ?_
        refine mM_get CX hP 26 (by omega) wl_377 rfl dM_call_36 ?_
        refine lv_iload_n hx hb dM_call_39 rfl (lv_at hl 0 rfl) ?_
        refine mA_ld CX hP 22 (by omega) (by omega) 5 rfl d (rfl) (by omega) dM_call_40 ?_
        refine kx_topi (v' := nI L) (hv22) ?_
        refine lv_icmp_ne (tgt := 82) hx hb dM_call_41 (by decide) (fun c_41 => ?_) (fun c_41 => ?_)
        · have c_41i := c_41
          have c_41 : ¬ (t = L) := fun hq9 => c_41 ((nI_eq' (a := t) (b := L) (by omega) (by omega)).mpr hq9)
          obtain ⟨e9, ht, he, hv21, hcl, hcd⟩ := hdn c_41
          refine lv_aload_n hx hb dM_call_82 rfl (lv_at hl 1 rfl) ?_
          refine mM_get CX hP 25 (by omega) wl_376 rfl dM_call_83 ?_
          refine lv_bipush (v := 16) hx hb dM_call_86 (by decide) ?_
          refine lv_iload_n hx hb dM_call_88 rfl (lv_at hl 0 rfl) ?_
          refine lv_imul hx hb dM_call_89 ?_
          refine kx_topi (v' := nI (16 * d)) (pk_mul 16 d) ?_
          refine lv_aload_n hx hb dM_call_90 rfl (lv_at hl 1 rfl) ?_
          refine mM_get CX hP 27 (by omega) wl_378 rfl dM_call_91 ?_
          refine lv_iload_n hx hb dM_call_94 rfl (lv_at hl 0 rfl) ?_
          refine mA_ld CX hP 23 (by omega) (by omega) 5 rfl d (rfl) (by omega) dM_call_95 ?_
          refine kx_topi (v' := nI t) (hv23) ?_
          refine lv_iadd hx hb dM_call_96 ?_
          refine kx_topi (v' := nI (16 * d + t)) (nI_add (16 * d) t) ?_
          refine mA_ld CX hP 21 (by omega) (by omega) 80 rfl (16 * d + t) (rfl) (by omega) dM_call_97 ?_
          refine kx_topi (v' := nI e9) (hv21) ?_
          refine lv_istore (lv' := [(4, .int (nI e9)), (3, .int (nI d)), (0, .ref (ad 0))]) hx hb dM_call_98 hl (by decide) rfl (fun ls hl => ?_)
          refine lv_aload_n hx hb dM_call_100 rfl (lv_at hl 2 rfl) ?_
          refine mM_get CX hP 27 (by omega) wl_378 rfl dM_call_101 ?_
          refine lv_iload_n hx hb dM_call_104 rfl (lv_at hl 1 rfl) ?_
          refine lv_dup2_11 hx hb dM_call_105 rfl rfl ?_
          refine mA_ld CX hP 23 (by omega) (by omega) 5 rfl d (rfl) (by omega) dM_call_106 ?_
          refine kx_topi (v' := nI t) (hv23) ?_
          refine lv_iconst (v := 1) hx hb dM_call_107 (by decide) ?_
          refine lv_iadd hx hb dM_call_108 ?_
          refine kx_topi (v' := nI (t + 1)) (nI_add t 1) ?_
          refine mA_st CX hP hS 23 (by omega) (by omega) 5 rfl d (rfl) (by omega) dM_call_109 (fun H locs hP hS => ?_)
          refine lv_aload_n hx hb dM_call_110 rfl (lv_at hl 2 rfl) ?_
          refine lv_iload hx hb dM_call_111 (lv_at hl 0 rfl) ?_
          refine kx_callV1 (σ1 := upd2 v 23 d (nI (t + 1))) (v := .int (bI (liveM (upd2 v 23 d (nI (t + 1))) e9 = true))) (n := 1) (As := [.int (nI e9)]) (rest := []) CX hP hS hl.1 (cM_live l D cA hJ (upd2 v 23 d (nI (t + 1))) e9 (by omega) hpl9) wl_516 wl_518 wp_30 wl_5 wl_519 ⟨rfl, by decide +kernel, by decide +kernel, by decide +kernel⟩ (kw_R_ok (by omega) (by omega)) ⟨rfl, rfl⟩ (k := 0) (by omega) rfl rfl rfl rfl rfl (Nat.le_of_ble_eq_true rfl) dM_call_113 (fun H locs hP hS => ?_)
          refine lv_if_ne (tgt := 122) hx hb dM_call_116 (by decide) (fun c_116 => ?_) (fun c_116 => ?_)
          · have c_116 := bI_ne0.mp c_116
            refine lv_aload_n hx hb dM_call_122 rfl (lv_at hl 2 rfl) ?_
            refine mM_get CX hP 14 (by omega) wl_365 rfl dM_call_123 ?_
            refine lv_iload hx hb dM_call_126 (lv_at hl 0 rfl) ?_
            refine lv_dup2_11 hx hb dM_call_128 rfl rfl ?_
            refine mA_ld CX hP 13 (by omega) (by omega) 16 rfl e9 (rfl) (by omega) dM_call_129 ?_
            refine kx_topi (v' := v 13 e9) rfl ?_
            refine lv_iconst (v := 1) hx hb dM_call_130 (by decide) ?_
            refine lv_iadd hx hb dM_call_131 ?_
            refine mA_st CX hP hS 13 (by omega) (by omega) 16 rfl e9 (rfl) (by omega) dM_call_132 (fun H locs hP hS => ?_)
            refine lv_aload_n hx hb dM_call_133 rfl (lv_at hl 2 rfl) ?_
            refine lv_iload hx hb dM_call_134 (lv_at hl 0 rfl) ?_
            refine kx_callV1 (σ1 := (m_done n d (upd2 (upd2 v 23 d (nI (t + 1))) 13 e9 ((v 13 e9) + 1)) e9).2) (v := .int ((m_done n d (upd2 (upd2 v 23 d (nI (t + 1))) 13 e9 ((v 13 e9) + 1)) e9).1)) (n := 1) (As := [.int (nI e9)]) (rest := []) CX hP hS hl.1 (cM_done l D cA hJ (upd2 (upd2 v 23 d (nI (t + 1))) 13 e9 ((v 13 e9) + 1)) e9 (by omega) n hn hm31 hpl9 d (by omega) hv34) wl_520 wl_522 wp_31 wl_5 wl_523 ⟨rfl, by decide +kernel, by decide +kernel, by decide +kernel⟩ (kw_R_ok (by omega) (by omega)) ⟨rfl, rfl⟩ (k := 0) (by omega) rfl rfl rfl rfl rfl (Nat.le_of_ble_eq_true rfl) dM_call_136 (fun H locs hP hS => ?_)
            refine lv_istore (lv' := [(5, .int ((m_done n d (upd2 (upd2 v 23 d (nI (t + 1))) 13 e9 ((v 13 e9) + 1)) e9).1)), (4, .int (nI e9)), (3, .int (nI d)), (0, .ref (ad 0))]) hx hb dM_call_139 hl (by decide) rfl (fun ls hl => ?_)
            skip
            refine lv_iload hx hb dM_call_141 (lv_at hl 0 rfl) ?_
            refine lv_if_le (tgt := 161) hx hb dM_call_143 (by decide) (fun c_143 => ?_) (fun c_143 => ?_)
            · skip
              refine lv_goto (tgt := 22) hx hb dM_call_161 (by decide) ?_
              exact ih22 g1 ((m_done n d (upd2 (upd2 v 23 d (nI (t + 1))) 13 e9 ((v 13 e9) + 1)) e9).2) ((hcd c_116 _ _ rfl).1 c_143) (by omega) _ _ hP hS ls (lv_sub hl [3] rfl)
            · skip
              refine lv_iload hx hb dM_call_146 (lv_at hl 0 rfl) ?_
              refine lv_bipush (v := 8) hx hb dM_call_148 (by decide) ?_
              refine lv_icmp_ge (tgt := 161) hx hb dM_call_150 (by decide) (fun c_150 => ?_) (fun c_150 => ?_)
              · skip
                refine lv_goto (tgt := 22) hx hb dM_call_161 (by decide) ?_
                exact ih22 g1 ((m_done n d (upd2 (upd2 v 23 d (nI (t + 1))) 13 e9 ((v 13 e9) + 1)) e9).2) ((hcd c_116 _ _ rfl).2.1 c_143 c_150) (by omega) _ _ hP hS ls (lv_sub hl [3] rfl)
              · skip
                refine lv_aload_n hx hb dM_call_153 rfl (lv_at hl 3 rfl) ?_
                refine lv_iload hx hb dM_call_154 (lv_at hl 1 rfl) ?_
                refine lv_iload hx hb dM_call_156 (lv_at hl 0 rfl) ?_
                refine kx_callV0 (σ1 := m_fail ((m_done n d (upd2 (upd2 v 23 d (nI (t + 1))) 13 e9 ((v 13 e9) + 1)) e9).2) e9 ((m_done n d (upd2 (upd2 v 23 d (nI (t + 1))) 13 e9 ((v 13 e9) + 1)) e9).1)) (n := 2) (As := [.int (nI e9), .int ((m_done n d (upd2 (upd2 v 23 d (nI (t + 1))) 13 e9 ((v 13 e9) + 1)) e9).1)]) (rest := []) CX hP hS hl.1 (cM_fail l D cA hJ ((m_done n d (upd2 (upd2 v 23 d (nI (t + 1))) 13 e9 ((v 13 e9) + 1)) e9).2) e9 (by omega) ((m_done n d (upd2 (upd2 v 23 d (nI (t + 1))) 13 e9 ((v 13 e9) + 1)) e9).1)) wl_539 wl_541 wp_35 wl_5 wl_542 ⟨rfl, by decide +kernel, by decide +kernel, by decide +kernel⟩ (kw_R_ok (by omega) (by omega)) ⟨rfl, rfl⟩ (k := 0) (by omega) rfl rfl rfl rfl rfl (Nat.le_of_ble_eq_true rfl) dM_call_158 (fun H locs hP hS => ?_)
                refine lv_goto (tgt := 22) hx hb dM_call_161 (by decide) ?_
                exact ih22 g1 (m_fail ((m_done n d (upd2 (upd2 v 23 d (nI (t + 1))) 13 e9 ((v 13 e9) + 1)) e9).2) e9 ((m_done n d (upd2 (upd2 v 23 d (nI (t + 1))) 13 e9 ((v 13 e9) + 1)) e9).1)) ((hcd c_116 _ _ rfl).2.2 c_143 c_150) (by omega) _ _ hP hS ls (lv_sub hl [3] rfl)
          · have c_116 := bI_eq0.mp c_116
            refine lv_goto (tgt := 22) hx hb dM_call_119 (by decide) ?_
            exact ih22 g1 (upd2 v 23 d (nI (t + 1))) (hcl c_116) (by omega) _ _ hP hS ls (lv_sub hl [2] rfl)
        · have c_41i := c_41
          have c_41 : t = L := (nI_eq' (a := t) (b := L) (by omega) (by omega)).mp c_41
          refine lv_iload_n hx hb dM_call_44 rfl (lv_at hl 0 rfl) ?_
          refine lv_if_ne (tgt := 55) hx hb dM_call_45 (by decide) (fun c_45 => ?_) (fun c_45 => ?_)
          · have c_45 : ¬ (d = 0) := (not_congr (nI_eq' (a := (d)) (b := 0) (by omega) (by omega))).mp c_45
            obtain ⟨d2, rfl⟩ : ∃ d2, d = d2 + 1 := ⟨d - 1, by omega⟩
            refine lv_aload_n hx hb dM_call_55 rfl (lv_at hl 1 rfl) ?_
            refine lv_dup hx hb dM_call_56 rfl ?_
            refine mM_get CX hP 23 (by omega) wl_374 rfl dM_call_57 ?_
            refine kx_topi (v' := nI (d2 + 1 + 1)) (hv34) ?_
            refine lv_iconst (v := 1) hx hb dM_call_60 (by decide) ?_
            refine lv_isub hx hb dM_call_61 ?_
            refine kx_topi (v' := nI (d2 + 1)) (nI_s1 (d2 + 1)) ?_
            refine mM_put CX hP hS 23 (by omega) 34 rfl wl_374 dM_call_62 (fun H locs hP hS => ?_)
            refine lv_aload_n hx hb dM_call_65 rfl (lv_at hl 1 rfl) ?_
            refine mM_get CX hP 24 (by omega) wl_375 rfl dM_call_66 ?_
            refine lv_iload_n hx hb dM_call_69 rfl (lv_at hl 0 rfl) ?_
            refine lv_iconst (v := 1) hx hb dM_call_70 (by decide) ?_
            refine lv_isub hx hb dM_call_71 ?_
            refine lv_aload_n hx hb dM_call_72 rfl (lv_at hl 1 rfl) ?_
            refine mM_get CX hP 24 (by omega) wl_375 rfl dM_call_73 ?_
            refine lv_iload_n hx hb dM_call_76 rfl (lv_at hl 0 rfl) ?_
            refine mA_ld CX hP 20 (by omega) (by omega) 5 rfl (d2 + 1) (rfl) (by omega) dM_call_77 ?_
            refine kx_topi (v' := v 20 (d2 + 1)) rfl ?_
            refine mA_st CX hP hS 20 (by omega) (by omega) 5 rfl d2 (nI_s1 d2) (by omega) dM_call_78 (fun H locs hP hS => ?_)
            refine lv_goto (tgt := 22) hx hb dM_call_79 (by decide) ?_
            exact ih22 g1 (upd2 (upd2 v 34 0 (nI (d2 + 1))) 20 d2 (v 20 (d2 + 1))) (hup c_41 d2 rfl) (by omega) _ _ hP hS ls (lv_sub hl [1] rfl)
          · have c_45 : d = 0 := (nI_eq' (a := (d)) (b := 0) (by omega) (by omega)).mp c_45
            refine lv_aload_n hx hb dM_call_48 rfl (lv_at hl 1 rfl) ?_
            refine mM_get CX hP 24 (by omega) wl_375 rfl dM_call_49 ?_
            refine lv_iconst (v := 0) hx hb dM_call_52 (by decide) ?_
            refine mA_ld CX hP 20 (by omega) (by omega) 5 rfl 0 (rfl) (by omega) dM_call_53 ?_
            exact kx_iret (σ' := v) CX hP hS dM_call_54 (by obtain ⟨h1, h2⟩ := hret c_41 c_45; exact ⟨by rw [h1], h2⟩)
    exact loop_22 (g0 + 1) g0 (m_beginC n 0 (upd2 μ 34 0 0) x1 x2) hg0 (Nat.lt_succ_self _) _ _ hP hS ls (lv_sub hl [0] rfl)
  · have c_6 := bI_eq0.mp c_6
    refine lv_iconst (v := (-1)) hx hb dM_call_9 (by decide) ?_
    exact kx_iret (σ' := μ) CX hP hS dM_call_10 (by obtain ⟨h1, h2⟩ := hst.1 c_6; exact ⟨by rw [h1], h2⟩)
