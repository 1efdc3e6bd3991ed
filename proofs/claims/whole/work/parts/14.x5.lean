/-- the order of two ordinals, as dcmp tells it -/
def dcv (a b : Int32) : Int32 := if a < b then -1 else if a = b then 0 else 1
theorem dcv_l (a b : Int32) : Op.cmpValue (FP.dcmp (d8 a) (d8 b)) .l = dcv a b := by
  rw [d8_eq, d8_eq, cmp_l (fp_S32 a) (fp_S32 b)]
  simp only [dcv, Int32.lt_iff_toInt_lt, Int32.toInt_inj]
theorem dcv_g (a b : Int32) : Op.cmpValue (FP.dcmp (d8 a) (d8 b)) .g = dcv a b := by
  rw [d8_eq, d8_eq, cmp_g (fp_S32 a) (fp_S32 b)]
  simp only [dcv, Int32.lt_iff_toInt_lt, Int32.toInt_inj]
theorem dcv_self (a : Int32) : dcv a a = 0 := by
  simp [dcv, Int32.lt_iff_toInt_lt]
theorem dcv_lt {a b : Int32} : dcv a b < 0 ↔ a < b := by
  simp only [dcv]
  split
  · rename_i h; exact ⟨fun _ => h, fun _ => by decide⟩
  · rename_i h
    split
    · exact ⟨fun q => absurd q (by decide), fun q => absurd q h⟩
    · exact ⟨fun q => absurd q (by decide), fun q => absurd q h⟩
def x_putL (σ : XS) (i : Nat) : Nat → XS
  | 0 => (σ.1, fun k => if k = 0 then i else σ.2 k)
  | p + 1 => if σ.1 16 i < σ.1 16 (σ.2 p) then x_putL (σ.1, fun k => if k = p + 1 then σ.2 p else σ.2 k) i p else (σ.1, fun k => if k = p + 1 then i else σ.2 k)
def x_put (σ : XS) (i : Nat) : XS := x_putL σ i i
def x_ext6 (σ : XS) (n : Nat) (x1 x2 x3 x4 x5 : Int32) : XS := xs (xs (xs (xs (xs (xs σ 11 n 1) 12 n x1) 13 n x2) 14 n x3) 15 n x4) 16 n x5
def x_extend (σ : XS) (x1 x2 x3 x4 x5 : Int32) : Int32 × XS :=
  if thereX σ x1 = true ∧ in3 x2 = true ∧ ¬ x3 < 0 ∧ x3 ≤ 8 then
    (if pn (σ.1 27 0) < 16 then (nI (pn (σ.1 27 0)), xs (x_put (x_ext6 σ (pn (σ.1 27 0)) x1 x2 x3 x4 x5) (pn (σ.1 27 0))) 27 0 ((x_put (x_ext6 σ (pn (σ.1 27 0)) x1 x2 x3 x4 x5) (pn (σ.1 27 0))).1 27 0 + 1)) else (-2, σ))
  else (-1, σ)
/-- the sum of the ordinals, in eighths, over the first n of the order -/
def x_wS (σ : XS) (pt : Int32) : Nat → Int
  | 0 => 0
  | n + 1 => if liveAtX σ (σ.2 n) pt = true then x_wS σ pt n + (σ.1 16 (σ.2 n)).toInt else x_wS σ pt n
theorem fp_sum {S : Int} {n : Nat} (h : S.natAbs ≤ n * 2147483648) (hn : n ≤ 16) : fp_S S := by
  unfold fp_S; omega
theorem fp_next {S : Int} {n : Nat} (x : Int32) (h : S.natAbs ≤ n * 2147483648) : (S + x.toInt).natAbs ≤ (n + 1) * 2147483648 := by
  have h1 := x.toInt_lt
  have h2 := x.le_toInt
  omega
theorem e8_opp {S : Int} (h : fp_S S) : Op.cmpValue (FP.dcmp (e8 S) 18442240474082181119) .g = 1 := by
  rw [e8_max h]; rfl
set_option maxRecDepth 100000 in
set_option maxHeartbeats 800000 in
theorem cX_comesBefore (l : Launch) (D : va_G) (cA : Nat → ClassId) {ad : Nat → Nat} (hJ : kw_J 36 ad) (σ : XS) (x1 x2 : Int32) : kx_Met l yX_comesBefore (.code yX_comesBefore bX_comesBefore 4 (Option.some .boolean) :: kw_T) (kw_R 0) D (kx_tys cA) 36 ad (wX cA ad) σ [.double (d8 x1), .double (d8 x2)] (fun r9 u9 => r9 = some (.int (bI (x1 < x2))) ∧ σ = u9) := by
  refine kx_of hJ (by decide +kernel) (Nat.le_of_ble_eq_true rfl) ?_
  intro p e s m args below meth c CX ls hl hP hS
  obtain ⟨hx, hb, hr, hml, hown, hts, hlk, hK, hJ1, hZ⟩ := id CX
  have hl : lv_has ls 4 [(0, .double (d8 x1)), (2, .double (d8 x2))] := hl
  refine lv_dload_n hx hb dX_comesBefore_0 rfl (lv_at hl 0 rfl) ?_
  refine lv_dload_n hx hb dX_comesBefore_1 rfl (lv_at hl 1 rfl) ?_
  refine lv_dcmp hx hb dX_comesBefore_2 ?_
  refine kx_topi (v' := dcv x1 x2) (dcv_g _ _) ?_
  refine lv_if_lt (tgt := 18) hx hb dX_comesBefore_3 (by decide) (fun c_3 => ?_) (fun c_3 => ?_)
  · skip
    refine lv_iconst (v := 1) hx hb dX_comesBefore_18 (by decide) ?_
    refine lv_goto (tgt := 23) hx hb dX_comesBefore_19 (by decide) ?_
    exact kx_zret (σ' := σ) CX (by decide) hP hS dX_comesBefore_23 (by constructor <;> simp [bI, dcv_lt.mp c_3])
  · skip
    refine lv_dload_n hx hb dX_comesBefore_6 rfl (lv_at hl 0 rfl) ?_
    refine lv_dload_n hx hb dX_comesBefore_7 rfl (lv_at hl 0 rfl) ?_
    refine lv_dcmp hx hb dX_comesBefore_8 ?_
    refine kx_topi (v' := 0) ((dcv_l _ _).trans (dcv_self _)) ?_
    refine lv_if_ne (tgt := 22) hx hb dX_comesBefore_9 (by decide) (fun c_9 => ?_) (fun c_9 => ?_)
    · exact absurd (by decide) c_9
    · skip
      refine lv_dload_n hx hb dX_comesBefore_12 rfl (lv_at hl 1 rfl) ?_
      refine lv_dload_n hx hb dX_comesBefore_13 rfl (lv_at hl 1 rfl) ?_
      refine lv_dcmp hx hb dX_comesBefore_14 ?_
      refine kx_topi (v' := 0) ((dcv_l _ _).trans (dcv_self _)) ?_
      refine lv_if_eq (tgt := 22) hx hb dX_comesBefore_15 (by decide) (fun c_15 => ?_) (fun c_15 => ?_)
      · skip
        refine lv_iconst (v := 0) hx hb dX_comesBefore_22 (by decide) ?_
        exact kx_zret (σ' := σ) CX (by decide) hP hS dX_comesBefore_23 (by (have c := (not_congr dcv_lt).mp c_3); constructor <;> simp [bI, c])
      · exact absurd (by decide) c_15
set_option maxRecDepth 100000 in
set_option maxHeartbeats 800000 in
theorem cX_areOppositeInfinities (l : Launch) (D : va_G) (cA : Nat → ClassId) {ad : Nat → Nat} (hJ : kw_J 36 ad) (σ : XS) (S : Int) (x2 : Int32) (hS8 : fp_S S) : kx_Met l yX_areOppositeInfinities (.code yX_areOppositeInfinities bX_areOppositeInfinities 4 (Option.some .boolean) :: kw_T) (kw_R 0) D (kx_tys cA) 36 ad (wX cA ad) σ [.double (e8 S), .double (d8 x2)] (fun r9 u9 => r9 = some (.int 0) ∧ σ = u9) := by
  refine kx_of hJ (by decide +kernel) (Nat.le_of_ble_eq_true rfl) ?_
  intro p e s m args below meth c CX ls hl hP hS
  obtain ⟨hx, hb, hr, hml, hown, hts, hlk, hK, hJ1, hZ⟩ := id CX
  have hl : lv_has ls 4 [(0, .double (e8 S)), (2, .double (d8 x2))] := hl
  refine lv_dload_n hx hb dX_areOppositeInfinities_0 rfl (lv_at hl 0 rfl) ?_
  refine lv_ldc2d (v := 18442240474082181119) hx hb hown (hts _ wl_319) dX_areOppositeInfinities_1 ?_
  refine lv_dcmp hx hb dX_areOppositeInfinities_4 ?_
  refine kx_topi (v' := 1) (e8_opp hS8) ?_
  refine lv_if_ge (tgt := 20) hx hb dX_areOppositeInfinities_5 (by decide) (fun c_5 => ?_) (fun c_5 => ?_)
  · skip
    refine lv_iconst (v := 0) hx hb dX_areOppositeInfinities_20 (by decide) ?_
    exact kx_zret (σ' := σ) CX (by decide) hP hS dX_areOppositeInfinities_21 (⟨rfl, rfl⟩)
  · exact absurd (by decide) c_5
set_option maxRecDepth 100000 in
set_option maxHeartbeats 800000 in
theorem cX_weight (l : Launch) (D : va_G) (cA : Nat → ClassId) {ad : Nat → Nat} (hJ : kw_J 36 ad) (σ : XS) (x1 : Int32) (hO : ∀ k, k < 16 → σ.2 k < 16) (hPl : ∀ e, e < 16 → ∃ j, j < 8 ∧ σ.1 12 e = nI j) : kx_Met l yX_weight (.code yX_weight bX_weight 10 (Option.some .double) :: kw_T) (kw_R 3) D (kx_tys cA) 36 ad (wX cA ad) σ [.ref (ad 0), .int x1] (fun r9 u9 => r9 = some (.double (e8 (x_wS σ x1 16))) ∧ σ = u9) := by
  refine kx_of hJ (by decide +kernel) (Nat.le_of_ble_eq_true rfl) ?_
  intro p e s m args below meth c CX ls hl hP hS
  obtain ⟨hx, hb, hr, hml, hown, hts, hlk, hK, hJ1, hZ⟩ := id CX
  have hl : lv_has ls 10 [(0, .ref (ad 0)), (1, .int x1)] := hl
  refine lv_dconst0 hx hb dX_weight_0 ?_
  refine kx_topd (v' := e8 0) (e8_0) ?_
  refine lv_dstore_n (lv' := [(2, .double (e8 0)), (0, .ref (ad 0)), (1, .int x1)]) hx hb dX_weight_1 rfl hl (by decide) rfl (fun ls hl => ?_)
  refine lv_aload_n hx hb dX_weight_2 rfl (lv_at hl 1 rfl) ?_
  refine xX_get CX hP 2 (by omega) wl_113 rfl dX_weight_3 ?_
  refine lv_astore (lv' := [(4, .ref (ad 3)), (2, .double (e8 0)), (0, .ref (ad 0)), (1, .int x1)]) hx hb dX_weight_6 hl (by decide) rfl (fun ls hl => ?_)
  refine lv_aload hx hb dX_weight_8 (lv_at hl 0 rfl) ?_
  refine kx_alen (v := 16) CX hP (k := 3) (t0 := 4) (by omega) rfl rfl rfl rfl dX_weight_10 ?_
  refine lv_istore (lv' := [(5, .int 16), (4, .ref (ad 3)), (2, .double (e8 0)), (0, .ref (ad 0)), (1, .int x1)]) hx hb dX_weight_11 hl (by decide) rfl (fun ls hl => ?_)
  refine lv_iconst (v := 0) hx hb dX_weight_13 (by decide) ?_
  refine lv_istore (lv' := [(6, .int 0), (5, .int 16), (4, .ref (ad 3)), (2, .double (e8 0)), (0, .ref (ad 0)), (1, .int x1)]) hx hb dX_weight_14 hl (by decide) rfl (fun ls hl => ?_)
  have loop_16 : ∀ (fu : Nat) (i : Nat) (S : Int), (i ≤ 16) → (S.natAbs ≤ i * 2147483648) → (S = x_wS σ x1 i) → 16 - i < fu → ∀ (H : Heap) (locs : List Loc), va_P D classes (kw_W 36 ad (wX cA ad σ)) H → va_S (kw_A 36 ad s.heap.size) s.heap H locs → ∀ (ls : Array Slot), lv_has ls 10 [(0, .ref (ad 0)), (1, .int x1), (2, .double (e8 S)), (4, .ref (ad 3)), (5, .int 16), (6, .int (nI i))] → W p l e (kw_R 3) s m args below meth c H locs 0 0 (kx_Q below D 36 ad (wX cA ad) (fun r9 u9 => r9 = some (.double (e8 (x_wS σ x1 16))) ∧ σ = u9) args s) (F0 m 16 ls []) := by
    intro fu16
    induction fu16 with
    | zero => intro i S hi hbd hq hm16; exact absurd hm16 (Nat.not_lt_zero _)
    | succ fu16 ih16 =>
      intro i S hi hbd hq hm16 H locs hP hS ls hl
      refine lv_iload hx hb dX_weight_16 (lv_at hl 5 rfl) ?_
      refine lv_iload hx hb dX_weight_18 (lv_at hl 4 rfl) ?_
      refine lv_icmp_ge (tgt := 80) hx hb dX_weight_20 (by decide) (fun c_20 => ?_) (fun c_20 => ?_)
      · have c_20i := c_20
        have c_20 : 16 ≤ i := (nI_le' (a := 16) (b := i) (by omega) (by omega)).mp c_20
        refine lv_dload_n hx hb dX_weight_80 rfl (lv_at hl 2 rfl) ?_
        exact kx_dret (σ' := σ) CX hP hS dX_weight_81 (by (have h16 : i = 16 := by omega); subst h16; rw [hq]; exact ⟨rfl, rfl⟩)
      · have c_20i := c_20
        have c_20 : ¬ (16 ≤ i) := fun hq9 => c_20 ((nI_le' (a := 16) (b := i) (by omega) (by omega)).mpr hq9)
        refine lv_aload hx hb dX_weight_23 (lv_at hl 3 rfl) ?_
        refine lv_iload hx hb dX_weight_25 (lv_at hl 5 rfl) ?_
        refine xA_O CX hP i (rfl) (by omega) dX_weight_27 ?_
        refine lv_astore (lv' := [(7, .ref (ad (20 + (σ.2 i)))), (0, .ref (ad 0)), (1, .int x1), (2, .double (e8 S)), (4, .ref (ad 3)), (5, .int 16), (6, .int (nI i))]) hx hb dX_weight_28 hl (by decide) rfl (fun ls hl => ?_)
        refine lv_aload_n hx hb dX_weight_30 rfl (lv_at hl 1 rfl) ?_
        refine lv_aload hx hb dX_weight_31 (lv_at hl 0 rfl) ?_
        refine lv_iload_n hx hb dX_weight_33 rfl (lv_at hl 2 rfl) ?_
        refine kx_callV1 (σ1 := σ) (v := .int (bI (liveAtX σ ((σ.2 i)) x1 = true))) (n := 2) (As := [.ref (ad (20 + (σ.2 i))), .int x1]) (rest := []) CX hP hS hl.1 (cX_isLiveAt l D cA hJ σ ((σ.2 i)) (hO _ (by omega)) x1 hPl) wl_246 wl_248 wp_10 wl_1 wl_249 ⟨rfl, by decide +kernel, by decide +kernel, by decide +kernel⟩ (kw_R_ok (by omega) (by omega)) ⟨rfl, rfl⟩ (k := 0) (by omega) rfl rfl rfl rfl rfl (Nat.le_of_ble_eq_true rfl) dX_weight_34 (fun H locs hP hS => ?_)
        refine lv_if_eq (tgt := 74) hx hb dX_weight_37 (by decide) (fun c_37 => ?_) (fun c_37 => ?_)
        · have c_37 := bI_eq0.mp c_37
          refine lv_iinc (v := nI (i + 1)) (lv' := [(6, .int (nI (i + 1))), (7, .ref (ad (20 + (σ.2 i)))), (0, .ref (ad 0)), (1, .int x1), (2, .double (e8 S)), (4, .ref (ad 3)), (5, .int 16)]) hx hb dX_weight_74 hl (k := 6) rfl (nI_i1 i) (by decide) rfl (fun ls hl => ?_)
          refine lv_goto (tgt := 16) hx hb dX_weight_77 (by decide) ?_
          exact ih16 (i + 1) S (by omega) (Nat.le_trans hbd (Nat.mul_le_mul_right _ (Nat.le_succ i))) (by simp [x_wS, hq, c_37]) (by omega) _ _ hP hS ls (lv_sub hl [2, 3, 4, 5, 6, 0] rfl)
        · have c_37 := bI_ne0.mp c_37
          refine lv_aload hx hb dX_weight_40 (lv_at hl 0 rfl) ?_
          refine xE_get CX hP (hO _ (by omega)) 6 (by omega) wl_88 rfl dX_weight_42 ?_
          refine lv_dstore (lv' := [(8, .double (d8 (σ.1 16 ((σ.2 i))))), (7, .ref (ad (20 + (σ.2 i)))), (0, .ref (ad 0)), (1, .int x1), (2, .double (e8 S)), (4, .ref (ad 3)), (5, .int 16), (6, .int (nI i))]) hx hb dX_weight_45 hl (by decide) rfl (fun ls hl => ?_)
          refine lv_dload hx hb dX_weight_47 (lv_at hl 0 rfl) ?_
          refine lv_dload hx hb dX_weight_49 (lv_at hl 0 rfl) ?_
          refine lv_dcmp hx hb dX_weight_51 ?_
          refine kx_topi (v' := 0) ((dcv_l _ _).trans (dcv_self _)) ?_
          refine lv_if_eq (tgt := 58) hx hb dX_weight_52 (by decide) (fun c_52 => ?_) (fun c_52 => ?_)
          · skip
            refine lv_dload_n hx hb dX_weight_58 rfl (lv_at hl 4 rfl) ?_
            refine lv_dload hx hb dX_weight_59 (lv_at hl 0 rfl) ?_
            refine kx_callS1 (σ1 := σ) (v := .int 0) (n := 2) (As := [.double (e8 S), .double (d8 (σ.1 16 ((σ.2 i))))]) (rest := []) CX hP hS hl.1 (cX_areOppositeInfinities l D cA hJ σ S (σ.1 16 ((σ.2 i))) (fp_sum hbd hi)) wl_316 wl_317 wl_1 wl_318 ⟨by decide +kernel, by decide +kernel, by decide +kernel⟩ (kw_R_ok (by omega) (by omega)) ⟨rfl, rfl⟩ rfl rfl (Nat.le_of_ble_eq_true rfl) dX_weight_61 (fun H locs hP hS => ?_)
            refine lv_if_eq (tgt := 69) hx hb dX_weight_64 (by decide) (fun c_64 => ?_) (fun c_64 => ?_)
            · skip
              refine lv_dload_n hx hb dX_weight_69 rfl (lv_at hl 4 rfl) ?_
              refine lv_dload hx hb dX_weight_70 (lv_at hl 0 rfl) ?_
              refine lv_dadd hx hb dX_weight_72 (by rw [d8_eq, e8_add (fp_sum hbd hi) (fp_S32 _)]; exact e8_vf (fp_sum (fp_next _ hbd) (by omega))) ?_
              refine kx_topd (v' := e8 (S + (σ.1 16 (σ.2 i)).toInt)) (by rw [d8_eq, e8_add (fp_sum hbd hi) (fp_S32 _)]) ?_
              refine lv_dstore_n (lv' := [(2, .double (e8 (S + (σ.1 16 (σ.2 i)).toInt))), (8, .double (d8 (σ.1 16 ((σ.2 i))))), (7, .ref (ad (20 + (σ.2 i)))), (0, .ref (ad 0)), (1, .int x1), (4, .ref (ad 3)), (5, .int 16), (6, .int (nI i))]) hx hb dX_weight_73 rfl hl (by decide) rfl (fun ls hl => ?_)
              refine lv_iinc (v := nI (i + 1)) (lv' := [(6, .int (nI (i + 1))), (2, .double (e8 (S + (σ.1 16 (σ.2 i)).toInt))), (8, .double (d8 (σ.1 16 ((σ.2 i))))), (7, .ref (ad (20 + (σ.2 i)))), (0, .ref (ad 0)), (1, .int x1), (4, .ref (ad 3)), (5, .int 16)]) hx hb dX_weight_74 hl (k := 7) rfl (nI_i1 i) (by decide) rfl (fun ls hl => ?_)
              refine lv_goto (tgt := 16) hx hb dX_weight_77 (by decide) ?_
              exact ih16 (i + 1) ((S + (σ.1 16 (σ.2 i)).toInt)) (by omega) (fp_next _ hbd) (by simp [x_wS, hq, c_37]) (by omega) _ _ hP hS ls (lv_sub hl [4, 5, 1, 6, 7, 0] rfl)
            · exact absurd (by decide) c_64
          · exact absurd (by decide) c_52
  exact loop_16 ((16 - 0) + 1) 0 0 (by omega) (by decide) rfl (Nat.lt_succ_self _) _ _ hP hS ls (lv_sub hl [4, 5, 3, 2, 1, 0] rfl)
set_option maxRecDepth 100000 in
set_option maxHeartbeats 800000 in
theorem cX_putInOrder (l : Launch) (D : va_G) (cA : Nat → ClassId) {ad : Nat → Nat} (hJ : kw_J 36 ad) (σ : XS) (i : Nat) (hi : i < 16) (hO : ∀ k, k < 16 → σ.2 k < 16) : kx_Met l yX_putInOrder (.code yX_putInOrder bX_putInOrder 3 none :: kw_T) (kw_R 1) D (kx_tys cA) 36 ad (wX cA ad) σ [.ref (ad 0), .ref (ad (20 + i))] (fun r9 u9 => r9 = none ∧ x_put σ i = u9) := by
  refine kx_of hJ (by decide +kernel) (Nat.le_of_ble_eq_true rfl) ?_
  intro p e s m args below meth c CX ls hl hP hS
  obtain ⟨hx, hb, hr, hml, hown, hts, hlk, hK, hJ1, hZ⟩ := id CX
  have hl : lv_has ls 3 [(0, .ref (ad 0)), (1, .ref (ad (20 + i)))] := hl
  refine lv_aload_n hx hb dX_putInOrder_0 rfl (lv_at hl 1 rfl) ?_
  refine xE_get CX hP (by omega) 0 (by omega) wl_81 rfl dX_putInOrder_1 ?_
  refine lv_istore_n (lv' := [(2, .int (nI i)), (0, .ref (ad 0)), (1, .ref (ad (20 + i)))]) hx hb dX_putInOrder_4 rfl hl (by decide) rfl (fun ls hl => ?_)
  have loop_5 : ∀ (fu : Nat) (pl : Nat) (v : XS), (pl ≤ i) → (∀ k, k < 16 → v.2 k < 16) → (x_putL σ i i = x_putL v i pl) → pl < fu → ∀ (H : Heap) (locs : List Loc), va_P D classes (kw_W 36 ad (wX cA ad v)) H → va_S (kw_A 36 ad s.heap.size) s.heap H locs → ∀ (ls : Array Slot), lv_has ls 3 [(0, .ref (ad 0)), (1, .ref (ad (20 + i))), (2, .int (nI pl))] → W p l e (kw_R 1) s m args below meth c H locs 0 0 (kx_Q below D 36 ad (wX cA ad) (fun r9 u9 => r9 = none ∧ x_put σ i = u9) args s) (F0 m 5 ls []) := by
    intro fu5
    induction fu5 with
    | zero => intro pl v hpl hO2 hq hm5; exact absurd hm5 (Nat.not_lt_zero _)
    | succ fu5 ih5 =>
      intro pl v hpl hO2 hq hm5 H locs hP hS ls hl
      refine lv_iload_n hx hb dX_putInOrder_5 rfl (lv_at hl 2 rfl) ?_
      refine lv_if_le (tgt := 50) hx hb dX_putInOrder_6 (by decide) (fun c_6 => ?_) (fun c_6 => ?_)
      · have c_6 : pl ≤ 0 := (nI_le' (a := pl) (b := 0) (by omega) (by omega)).mp c_6
        refine lv_aload_n hx hb dX_putInOrder_50 rfl (lv_at hl 0 rfl) ?_
        refine xX_get CX hP 2 (by omega) wl_113 rfl dX_putInOrder_51 ?_
        refine lv_iload_n hx hb dX_putInOrder_54 rfl (lv_at hl 2 rfl) ?_
        refine lv_aload_n hx hb dX_putInOrder_55 rfl (lv_at hl 1 rfl) ?_
        refine xA_Ost CX hP hS pl i (rfl) (by omega) (by omega) dX_putInOrder_56 (fun H locs hP hS => ?_)
        exact kx_vret (σ' := (v.1, fun k => if k = pl then i else v.2 k)) CX hP hS dX_putInOrder_57 (by refine ⟨rfl, ?_⟩; rw [x_put, hq]; (obtain rfl : pl = 0 := by omega); rfl)
      · have c_6 : ¬ (pl ≤ 0) := fun hq9 => c_6 ((nI_le' (a := pl) (b := 0) (by omega) (by omega)).mpr hq9)
        refine lv_aload_n hx hb dX_putInOrder_9 rfl (lv_at hl 1 rfl) ?_
        refine xE_get CX hP (by omega) 6 (by omega) wl_88 rfl dX_putInOrder_10 ?_
        refine lv_aload_n hx hb dX_putInOrder_13 rfl (lv_at hl 0 rfl) ?_
        refine xX_get CX hP 2 (by omega) wl_113 rfl dX_putInOrder_14 ?_
        refine lv_iload_n hx hb dX_putInOrder_17 rfl (lv_at hl 2 rfl) ?_
        refine lv_iconst (v := 1) hx hb dX_putInOrder_18 (by decide) ?_
        refine lv_isub hx hb dX_putInOrder_19 ?_
        refine xA_O CX hP (pl - 1) (pk_sub (a := pl) (b := 1) (by omega)) (by omega) dX_putInOrder_20 ?_
        refine xE_get CX hP (hO2 _ (by omega)) 6 (by omega) wl_88 rfl dX_putInOrder_21 ?_
        refine kx_callS1 (σ1 := v) (v := .int (bI ((v.1 16 i) < (v.1 16 ((v.2 (pl - 1))))))) (n := 2) (As := [.double (d8 (v.1 16 i)), .double (d8 (v.1 16 ((v.2 (pl - 1)))))]) (rest := []) CX hP hS hl.1 (cX_comesBefore l D cA hJ v (v.1 16 i) (v.1 16 ((v.2 (pl - 1))))) wl_191 wl_192 wl_1 wl_193 ⟨by decide +kernel, by decide +kernel, by decide +kernel⟩ (kw_R_ok (by omega) (by omega)) ⟨rfl, rfl⟩ rfl rfl (Nat.le_of_ble_eq_true rfl) dX_putInOrder_24 (fun H locs hP hS => ?_)
        refine lv_if_eq (tgt := 50) hx hb dX_putInOrder_27 (by decide) (fun c_27 => ?_) (fun c_27 => ?_)
        · have c_27 := bI_eq0.mp c_27
          refine lv_aload_n hx hb dX_putInOrder_50 rfl (lv_at hl 0 rfl) ?_
          refine xX_get CX hP 2 (by omega) wl_113 rfl dX_putInOrder_51 ?_
          refine lv_iload_n hx hb dX_putInOrder_54 rfl (lv_at hl 2 rfl) ?_
          refine lv_aload_n hx hb dX_putInOrder_55 rfl (lv_at hl 1 rfl) ?_
          refine xA_Ost CX hP hS pl i (rfl) (by omega) (by omega) dX_putInOrder_56 (fun H locs hP hS => ?_)
          exact kx_vret (σ' := (v.1, fun k => if k = pl then i else v.2 k)) CX hP hS dX_putInOrder_57 (by refine ⟨rfl, ?_⟩; rw [x_put, hq]; obtain ⟨q, rfl⟩ : ∃ q, pl = q + 1 := ⟨pl - 1, by omega⟩; simp only [Nat.add_sub_cancel] at c_27; simp [x_putL, c_27])
        · have c_27 := bI_ne0.mp c_27
          refine lv_aload_n hx hb dX_putInOrder_30 rfl (lv_at hl 0 rfl) ?_
          refine xX_get CX hP 2 (by omega) wl_113 rfl dX_putInOrder_31 ?_
          refine lv_iload_n hx hb dX_putInOrder_34 rfl (lv_at hl 2 rfl) ?_
          refine lv_aload_n hx hb dX_putInOrder_35 rfl (lv_at hl 0 rfl) ?_
          refine xX_get CX hP 2 (by omega) wl_113 rfl dX_putInOrder_36 ?_
          refine lv_iload_n hx hb dX_putInOrder_39 rfl (lv_at hl 2 rfl) ?_
          refine lv_iconst (v := 1) hx hb dX_putInOrder_40 (by decide) ?_
          refine lv_isub hx hb dX_putInOrder_41 ?_
          refine xA_O CX hP (pl - 1) (pk_sub (a := pl) (b := 1) (by omega)) (by omega) dX_putInOrder_42 ?_
          refine xA_Ost CX hP hS pl ((v.2 (pl - 1))) (rfl) (by omega) (hO2 _ (by omega)) dX_putInOrder_43 (fun H locs hP hS => ?_)
          refine lv_iinc (v := nI (pl - 1)) (lv' := [(2, .int (nI (pl - 1))), (0, .ref (ad 0)), (1, .ref (ad (20 + i)))]) hx hb dX_putInOrder_44 hl (k := 2) rfl (sb_m1 (by omega)) (by decide) rfl (fun ls hl => ?_)
          refine lv_goto (tgt := 5) hx hb dX_putInOrder_47 (by decide) ?_
          exact ih5 (pl - 1) ((v.1, fun k => if k = pl then (v.2 (pl - 1)) else v.2 k)) (by omega) (fun k hk => by show (if k = pl then v.2 (pl - 1) else v.2 k) < 16; split; exact hO2 _ (by omega); exact hO2 _ hk) (by obtain ⟨q, rfl⟩ : ∃ q, pl = q + 1 := ⟨pl - 1, by omega⟩; rw [hq]; simp only [Nat.add_sub_cancel] at c_27; simp [x_putL, c_27]) (by omega) _ _ hP hS ls (lv_sub hl [1, 2, 0] rfl)
  exact loop_5 (i + 1) i σ (Nat.le_refl _) hO rfl (Nat.lt_succ_self _) _ _ hP hS ls (lv_sub hl [1, 2, 0] rfl)
set_option maxRecDepth 100000 in
set_option maxHeartbeats 800000 in
theorem cX_extend (l : Launch) (D : va_G) (cA : Nat → ClassId) {ad : Nat → Nat} (hJ : kw_J 36 ad) (σ : XS) (x1 x2 x3 x4 x5 : Int32) (n : Nat) (hn : n ≤ 16) (hm : σ.1 27 0 = nI n) (hO : ∀ k, k < 16 → σ.2 k < 16) : kx_Met l yX_extend (.code yX_extend bX_extend 8 (Option.some .int) :: kw_T) (kw_R 2) D (kx_tys cA) 36 ad (wX cA ad) σ [.ref (ad 0), .int x1, .int x2, .int x3, .int x4, .double (d8 x5)] (fun r9 u9 => r9 = some (.int ((x_extend σ x1 x2 x3 x4 x5).1)) ∧ (x_extend σ x1 x2 x3 x4 x5).2 = u9) := by
  have en : pn (nI n) = n := pn_nI (by omega)
  refine kx_of hJ (by decide +kernel) (Nat.le_of_ble_eq_true rfl) ?_
  intro p e s m args below meth c CX ls hl hP hS
  obtain ⟨hx, hb, hr, hml, hown, hts, hlk, hK, hJ1, hZ⟩ := id CX
  have hl : lv_has ls 8 [(0, .ref (ad 0)), (1, .int x1), (2, .int x2), (3, .int x3), (4, .int x4), (5, .double (d8 x5))] := hl
  refine lv_aload_n hx hb dX_extend_0 rfl (lv_at hl 0 rfl) ?_
  refine lv_iload_n hx hb dX_extend_1 rfl (lv_at hl 1 rfl) ?_
  refine kx_callV1 (σ1 := σ) (v := .int (bI (thereX σ x1 = true))) (n := 1) (As := [.int x1]) (rest := []) CX hP hS hl.1 (cX_isThere l D cA hJ σ x1) wl_158 wl_160 wp_0 wl_1 wl_161 ⟨rfl, by decide +kernel, by decide +kernel, by decide +kernel⟩ (kw_R_ok (by omega) (by omega)) ⟨rfl, rfl⟩ (k := 0) (by omega) rfl rfl rfl rfl rfl (Nat.le_of_ble_eq_true rfl) dX_extend_2 (fun H locs hP hS => ?_)
  refine lv_if_eq (tgt := 25) hx hb dX_extend_5 (by decide) (fun c_5 => ?_) (fun c_5 => ?_)
  · have c_5 := bI_eq0.mp c_5
    refine lv_iconst (v := (-1)) hx hb dX_extend_25 (by decide) ?_
    exact kx_iret (σ' := σ) CX hP hS dX_extend_26 (by constructor <;> simp [bI, c_5, x_extend, x_ext6, hm, en])
  · have c_5 := bI_ne0.mp c_5
    obtain ⟨j, hj, rfl⟩ := thereX_of c_5
    have ej : pn (nI j) = j := pn_nI (by omega)
    refine lv_iload_n hx hb dX_extend_8 rfl (lv_at hl 2 rfl) ?_
    refine kx_callS1 (σ1 := σ) (v := .int (bI (in3 x2 = true))) (n := 1) (As := [.int x2]) (rest := []) CX hP hS hl.1 (cX_isPoint l D cA hJ σ x2) wl_184 wl_185 wl_1 wl_186 ⟨by decide +kernel, by decide +kernel, by decide +kernel⟩ (kw_R_ok (by omega) (by omega)) ⟨rfl, rfl⟩ rfl rfl (Nat.le_of_ble_eq_true rfl) dX_extend_9 (fun H locs hP hS => ?_)
    refine lv_if_eq (tgt := 25) hx hb dX_extend_12 (by decide) (fun c_12 => ?_) (fun c_12 => ?_)
    · have c_12 := bI_eq0.mp c_12
      refine lv_iconst (v := (-1)) hx hb dX_extend_25 (by decide) ?_
      exact kx_iret (σ' := σ) CX hP hS dX_extend_26 (by constructor <;> simp [bI, c_5, ej, c_12, x_extend, x_ext6, hm, en])
    · have c_12 := bI_ne0.mp c_12
      refine lv_iload_n hx hb dX_extend_15 rfl (lv_at hl 3 rfl) ?_
      refine lv_if_lt (tgt := 25) hx hb dX_extend_16 (by decide) (fun c_16 => ?_) (fun c_16 => ?_)
      · skip
        refine lv_iconst (v := (-1)) hx hb dX_extend_25 (by decide) ?_
        exact kx_iret (σ' := σ) CX hP hS dX_extend_26 (by constructor <;> simp [bI, c_5, ej, c_12, c_16, x_extend, x_ext6, hm, en])
      · skip
        refine lv_iload_n hx hb dX_extend_19 rfl (lv_at hl 3 rfl) ?_
        refine lv_bipush (v := 8) hx hb dX_extend_20 (by decide) ?_
        refine lv_icmp_le (tgt := 27) hx hb dX_extend_22 (by decide) (fun c_22 => ?_) (fun c_22 => ?_)
        · skip
          refine lv_aload_n hx hb dX_extend_27 rfl (lv_at hl 0 rfl) ?_
          refine xX_get CX hP 7 (by omega) wl_118 rfl dX_extend_28 ?_
          refine kx_topi (v' := nI n) (hm) ?_
          refine lv_bipush (v := 16) hx hb dX_extend_31 (by decide) ?_
          refine lv_icmp_lt (tgt := 39) hx hb dX_extend_33 (by decide) (fun c_33 => ?_) (fun c_33 => ?_)
          · have c_33i := c_33
            have c_33 : n < 16 := (nI_lt' (a := n) (b := 16) (by omega) (by omega)).mp c_33
            refine lv_aload_n hx hb dX_extend_39 rfl (lv_at hl 0 rfl) ?_
            refine xX_get CX hP 1 (by omega) wl_112 rfl dX_extend_40 ?_
            refine lv_aload_n hx hb dX_extend_43 rfl (lv_at hl 0 rfl) ?_
            refine xX_get CX hP 7 (by omega) wl_118 rfl dX_extend_44 ?_
            refine kx_topi (v' := nI n) (hm) ?_
            refine xA_E CX hP n (rfl) (by omega) dX_extend_47 ?_
            refine lv_astore (lv' := [(7, .ref (ad (20 + n))), (0, .ref (ad 0)), (1, .int (nI j)), (2, .int x2), (3, .int x3), (4, .int x4), (5, .double (d8 x5))]) hx hb dX_extend_48 hl (by decide) rfl (fun ls hl => ?_)
            refine lv_aload hx hb dX_extend_50 (lv_at hl 0 rfl) ?_
            refine lv_iconst (v := 1) hx hb dX_extend_52 (by decide) ?_
            refine xE_put CX hP hS (by omega) 1 (by omega) (by omega) (by omega) wl_83 ⟨rfl, rfl⟩ dX_extend_53 (fun H locs hP hS => ?_)
            refine lv_aload hx hb dX_extend_56 (lv_at hl 0 rfl) ?_
            refine lv_iload_n hx hb dX_extend_58 rfl (lv_at hl 2 rfl) ?_
            refine xE_put CX hP hS (by omega) 2 (by omega) (by omega) (by omega) wl_84 ⟨rfl, rfl⟩ dX_extend_59 (fun H locs hP hS => ?_)
            refine lv_aload hx hb dX_extend_62 (lv_at hl 0 rfl) ?_
            refine lv_iload_n hx hb dX_extend_64 rfl (lv_at hl 3 rfl) ?_
            refine xE_put CX hP hS (by omega) 3 (by omega) (by omega) (by omega) wl_85 ⟨rfl, rfl⟩ dX_extend_65 (fun H locs hP hS => ?_)
            refine lv_aload hx hb dX_extend_68 (lv_at hl 0 rfl) ?_
            refine lv_iload_n hx hb dX_extend_70 rfl (lv_at hl 4 rfl) ?_
            refine xE_put CX hP hS (by omega) 4 (by omega) (by omega) (by omega) wl_86 ⟨rfl, rfl⟩ dX_extend_71 (fun H locs hP hS => ?_)
            refine lv_aload hx hb dX_extend_74 (lv_at hl 0 rfl) ?_
            refine lv_iload hx hb dX_extend_76 (lv_at hl 5 rfl) ?_
            refine xE_put CX hP hS (by omega) 5 (by omega) (by omega) (by omega) wl_87 ⟨rfl, rfl⟩ dX_extend_78 (fun H locs hP hS => ?_)
            refine lv_aload hx hb dX_extend_81 (lv_at hl 0 rfl) ?_
            refine lv_dload hx hb dX_extend_83 (lv_at hl 6 rfl) ?_
            refine xE_putD CX hP hS (by omega) wl_88 dX_extend_85 (fun H locs hP hS => ?_)
            refine lv_aload_n hx hb dX_extend_88 rfl (lv_at hl 1 rfl) ?_
            refine lv_aload hx hb dX_extend_89 (lv_at hl 0 rfl) ?_
            refine kx_callV0 (σ1 := x_put (xs (xs (xs (xs (xs (xs σ 11 n 1) 12 n (nI j)) 13 n x2) 14 n x3) 15 n x4) 16 n x5) n) (n := 1) (As := [.ref (ad (20 + n))]) (rest := []) CX hP hS hl.1 (cX_putInOrder l D cA hJ (xs (xs (xs (xs (xs (xs σ 11 n 1) 12 n (nI j)) 13 n x2) 14 n x3) 15 n x4) 16 n x5) n (by omega) hO) wl_187 wl_189 wp_1 wl_1 wl_190 ⟨rfl, by decide +kernel, by decide +kernel, by decide +kernel⟩ (kw_R_ok (by omega) (by omega)) ⟨rfl, rfl⟩ (k := 0) (by omega) rfl rfl rfl rfl rfl (Nat.le_of_ble_eq_true rfl) dX_extend_91 (fun H locs hP hS => ?_)
            refine lv_aload_n hx hb dX_extend_94 rfl (lv_at hl 1 rfl) ?_
            refine lv_dup hx hb dX_extend_95 rfl ?_
            refine xX_get CX hP 7 (by omega) wl_118 rfl dX_extend_96 ?_
            refine lv_iconst (v := 1) hx hb dX_extend_99 (by decide) ?_
            refine lv_iadd hx hb dX_extend_100 ?_
            refine xX_put CX hP hS 7 (by omega) wl_118 dX_extend_101 (fun H locs hP hS => ?_)
            refine lv_aload hx hb dX_extend_104 (lv_at hl 0 rfl) ?_
            refine xE_get CX hP (by omega) 0 (by omega) wl_81 rfl dX_extend_106 ?_
            exact kx_iret (σ' := xs (x_put (xs (xs (xs (xs (xs (xs σ 11 n 1) 12 n (nI j)) 13 n x2) 14 n x3) 15 n x4) 16 n x5) n) 27 0 (((x_put (xs (xs (xs (xs (xs (xs σ 11 n 1) 12 n (nI j)) 13 n x2) 14 n x3) 15 n x4) 16 n x5) n).1 27 0) + 1)) CX hP hS dX_extend_109 (by constructor <;> simp [bI, c_5, ej, c_12, c_16, c_22, c_33, c_33i, x_extend, x_ext6, hm, en])
          · have c_33i := c_33
            have c_33 : ¬ (n < 16) := fun hq9 => c_33 ((nI_lt' (a := n) (b := 16) (by omega) (by omega)).mpr hq9)
            refine lv_bipush (v := (-2)) hx hb dX_extend_36 (by decide) ?_
            exact kx_iret (σ' := σ) CX hP hS dX_extend_38 (by constructor <;> simp [bI, c_5, ej, c_12, c_16, c_22, c_33, c_33i, x_extend, x_ext6, hm, en])
        · skip
          refine lv_iconst (v := (-1)) hx hb dX_extend_25 (by decide) ?_
          exact kx_iret (σ' := σ) CX hP hS dX_extend_26 (by constructor <;> simp [bI, c_5, ej, c_12, c_16, c_22, x_extend, x_ext6, hm, en])
