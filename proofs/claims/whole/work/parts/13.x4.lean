def x_faulted0 (σ : XS) (e : Nat) (kd pv : Int32) : XS := hnote (hnote (hnote (xs σ 17 e (σ.1 17 e + 1)) 1 (nI e)) 2 kd) 3 pv
def x_faulted (σ : XS) (e : Nat) (kd pv : Int32) : XS := if shutX (x_faulted0 σ e kd pv) e = true then hnote (x_faulted0 σ e kd pv) 0 (nI (60 + e)) else x_faulted0 σ e kd pv
def x_divide (σ : XS) (e : Nat) (x : Int32) : Int32 × XS := if σ.1 15 e = 0 then (x, x_faulted σ e 1 (-1)) else (x / σ.1 15 e, σ)
def x_look (σ : XS) (e : Nat) (x : Int32) : Int32 × XS := if lo4 (x ^^^ σ.1 15 e) < 12 then (kx_tbl (lo4 (x ^^^ σ.1 15 e)), σ) else (x, x_faulted σ e 2 (-1))
def x_ask (σ : XS) (e : Nat) (x : Int32) : Int32 × XS :=
  if σ.1 1 (lo3 (σ.1 15 e)) = 2 ∧ ¬ σ.1 4 (lo3 (σ.1 15 e)) = 0 then
    (if σ.1 4 (lo3 (σ.1 15 e)) = 2 then (x, x_faulted σ e 3 (nI (lo3 (σ.1 15 e)))) else (x + σ.1 5 (lo3 (σ.1 15 e)), σ))
  else (x, x_faulted σ e 4 (nI (lo3 (σ.1 15 e))))
def x_bracket (σ : XS) (e : Nat) (x : Int32) : Int32 × XS :=
  if x = (hnote σ 0 (nI (40 + e))).1 15 e then (x, x_faulted (hnote σ 0 (nI (40 + e))) e 6 (-1)) else (2 * x, hnote σ 0 (nI (40 + e)))
def x_pass (nst : XS → Nat → Int32 → Int32 × XS) (σ : XS) (e : Nat) (x : Int32) : Int32 × XS :=
  if σ.1 14 e = 0 then (x + σ.1 15 e, σ) else if σ.1 14 e = 1 then x_divide σ e x else if σ.1 14 e = 2 then x_look σ e x else if σ.1 14 e = 3 then x_ask σ e x
  else if σ.1 14 e = 4 then (x, x_faulted σ e 5 (-1)) else if σ.1 14 e = 5 then nst σ e x else if σ.1 14 e = 6 then (if σ.1 15 e ≤ x then (x, x_faulted σ e 6 (-1)) else (x, σ))
  else if σ.1 14 e = 7 then (x + σ.1 18 e, σ) else if σ.1 14 e = 8 then x_bracket σ e x else (x, σ)
def x_callL (ps : XS → Nat → Int32 → Int32 × XS) (pt : Int32) : Nat → Nat → XS → Int32 → Int32 × XS
  | 0, _, σ, x => (x, σ)
  | n + 1, i, σ, x => if liveAtX σ (σ.2 i) pt = true then x_callL ps pt n (i + 1) (ps (xs σ 18 (σ.2 i) (σ.1 18 (σ.2 i) + 1)) (σ.2 i) x).2 (ps (xs σ 18 (σ.2 i) (σ.1 18 (σ.2 i) + 1)) (σ.2 i) x).1
    else x_callL ps pt n (i + 1) σ x
def x_ptOf (p : Int32) : Int32 := if p &&& 3 = 3 then 0 else p &&& 3
def x_callP : Nat → XS → Int32 → Int32 → Int32 × XS
  | 0, σ, pt, x => x_callL (x_pass (fun σ e x => (x, x_faulted σ e 7 (σ.1 12 e)))) pt 16 0 σ x
  | r + 1, σ, pt, x => x_callL (x_pass (fun σ e x => x_callP r σ (x_ptOf (σ.1 15 e)) (x + 1))) pt 16 0 σ x
def x_nest (r : Nat) (σ : XS) (e : Nat) (x : Int32) : Int32 × XS := match r with
  | 0 => (x, x_faulted σ e 7 (σ.1 12 e))
  | r + 1 => x_callP r σ (x_ptOf (σ.1 15 e)) (x + 1)
theorem x_callP_eq (r : Nat) (σ : XS) (pt x : Int32) : x_callP r σ pt x = x_callL (x_pass (x_nest r)) pt 16 0 σ x := by
  cases r <;> rfl
def x_call (σ : XS) (pt x : Int32) : Int32 × XS := if in3 pt = true then x_callP 3 σ pt x else (-1, σ)
/-- what a call leaves as it was: all but faults, calls and the histories -/
def x_keep (σ σ' : XS) : Prop := σ'.2 = σ.2 ∧ ∀ f, f ≠ 17 → f ≠ 18 → f < 30 → σ'.1 f = σ.1 f
theorem x_keep_r (σ : XS) : x_keep σ σ := ⟨rfl, fun _ _ _ _ => rfl⟩
theorem x_keep_t {a b c : XS} (h1 : x_keep a b) (h2 : x_keep b c) : x_keep a c := ⟨h2.1.trans h1.1, fun f q1 q2 q3 => (h2.2 f q1 q2 q3).trans (h1.2 f q1 q2 q3)⟩
theorem x_keep_n (σ : XS) (h : Nat) (x : Int32) : x_keep σ (hnote σ h x) := ⟨rfl, fun f h1 h2 h3 => hnote_f (by omega) (by omega)⟩
theorem x_keep_x (σ : XS) {f : Nat} (k : Nat) (v : Int32) (hf : f = 17 ∨ f = 18) : x_keep σ (xs σ f k v) := ⟨rfl, fun f' h1 h2 h3 => xs_f (by omega)⟩
theorem x_keep_f (σ : XS) (e : Nat) (kd pv : Int32) : x_keep σ (x_faulted σ e kd pv) := by
  have h : x_keep σ (x_faulted0 σ e kd pv) := x_keep_t (x_keep_t (x_keep_t (x_keep_x σ e _ (Or.inl rfl)) (x_keep_n _ _ _)) (x_keep_n _ _ _)) (x_keep_n _ _ _)
  simp only [x_faulted]
  split
  · exact x_keep_t h (x_keep_n _ _ _)
  · exact h
theorem x_keep_pass {nst : XS → Nat → Int32 → Int32 × XS} (hn : ∀ σ e x, x_keep σ (nst σ e x).2) (σ : XS) (e : Nat) (x : Int32) : x_keep σ (x_pass nst σ e x).2 := by
  simp only [x_pass]
  split
  · exact x_keep_r _
  split
  · simp only [x_divide]; split
    · exact x_keep_f _ _ _ _
    · exact x_keep_r _
  split
  · simp only [x_look]; split
    · exact x_keep_r _
    · exact x_keep_f _ _ _ _
  split
  · simp only [x_ask]; split
    · split
      · exact x_keep_f _ _ _ _
      · exact x_keep_r _
    · exact x_keep_f _ _ _ _
  split
  · exact x_keep_f _ _ _ _
  split
  · exact hn _ _ _
  split
  · split
    · exact x_keep_f _ _ _ _
    · exact x_keep_r _
  split
  · exact x_keep_r _
  split
  · simp only [x_bracket]; split
    · exact x_keep_t (x_keep_n _ _ _) (x_keep_f _ _ _ _)
    · exact x_keep_n _ _ _
  · exact x_keep_r _
theorem x_keep_callL {ps : XS → Nat → Int32 → Int32 × XS} (hp : ∀ σ e x, x_keep σ (ps σ e x).2) (pt : Int32) : ∀ (n i : Nat) (σ : XS) (x : Int32), x_keep σ (x_callL ps pt n i σ x).2 := by
  intro n
  induction n with
  | zero => intro i σ x; exact x_keep_r _
  | succ n ih =>
    intro i σ x
    simp only [x_callL]
    split
    · exact x_keep_t (x_keep_t (x_keep_x σ _ _ (Or.inr rfl)) (hp _ _ _)) (ih _ _ _)
    · exact ih _ _ _
theorem x_keep_call : ∀ (r : Nat) (σ : XS) (pt x : Int32), x_keep σ (x_callP r σ pt x).2 := by
  intro r
  induction r with
  | zero => intro σ pt x; exact x_keep_callL (x_keep_pass fun _ _ _ => x_keep_f _ _ _ _) _ _ _ _ _
  | succ r ih => intro σ pt x; exact x_keep_callL (x_keep_pass fun _ _ _ => ih _ _ _) _ _ _ _ _
theorem x_keep_nest (r : Nat) (σ : XS) (e : Nat) (x : Int32) : x_keep σ (x_nest r σ e x).2 := by
  cases r with
  | zero => exact x_keep_f _ _ _ _
  | succ r => exact x_keep_call _ _ _ _
/-- every order and every extension's plugin is a place -/
def x_ok (σ : XS) : Prop := (∀ k, k < 16 → σ.2 k < 16) ∧ ∀ e, e < 16 → ∃ j, j < 8 ∧ σ.1 12 e = nI j
theorem x_ok_k {σ σ' : XS} (h : x_ok σ) (hk : x_keep σ σ') : x_ok σ' := ⟨by rw [hk.1]; exact h.1, by rw [hk.2 12 (by omega) (by omega) (by omega)]; exact h.2⟩
set_option maxRecDepth 100000 in
set_option maxHeartbeats 800000 in
theorem cX_faulted (l : Launch) (D : va_G) (cA : Nat → ClassId) {ad : Nat → Nat} (hJ : kw_J 36 ad) (σ : XS) (i : Nat) (hi : i < 16) (x2 x3 x4 : Int32) : kx_Met l yX_faulted (.code yX_faulted bX_faulted 5 (Option.some .int) :: kw_T) (kw_R 1) D (kx_tys cA) 36 ad (wX cA ad) σ [.ref (ad 0), .ref (ad (20 + i)), .int x2, .int x3, .int x4] (fun r9 u9 => r9 = some (.int x4) ∧ x_faulted σ i x2 x3 = u9) := by
  refine kx_of hJ (by decide +kernel) (Nat.le_of_ble_eq_true rfl) ?_
  intro p e s m args below meth c CX ls hl hP hS
  obtain ⟨hx, hb, hr, hml, hown, hts, hlk, hK, hJ1, hZ⟩ := id CX
  have hl : lv_has ls 5 [(0, .ref (ad 0)), (1, .ref (ad (20 + i))), (2, .int x2), (3, .int x3), (4, .int x4)] := hl
  refine lv_aload_n hx hb dX_faulted_0 rfl (lv_at hl 1 rfl) ?_
  refine lv_dup hx hb dX_faulted_1 rfl ?_
  refine xE_get CX hP (by omega) 7 (by omega) wl_90 rfl dX_faulted_2 ?_
  refine lv_iconst (v := 1) hx hb dX_faulted_5 (by decide) ?_
  refine lv_iadd hx hb dX_faulted_6 ?_
  refine xE_put CX hP hS (by omega) 7 (by omega) (by omega) (by omega) wl_90 ⟨rfl, rfl⟩ dX_faulted_7 (fun H locs hP hS => ?_)
  refine lv_aload_n hx hb dX_faulted_10 rfl (lv_at hl 0 rfl) ?_
  refine xX_get CX hP 4 (by omega) wl_115 rfl dX_faulted_11 ?_
  refine lv_aload_n hx hb dX_faulted_14 rfl (lv_at hl 1 rfl) ?_
  refine xE_get CX hP (by omega) 0 (by omega) wl_81 rfl dX_faulted_15 ?_
  refine kx_callV0 (σ1 := hnote (xs σ 17 i ((σ.1 17 i) + 1)) 1 (nI i)) (n := 1) (As := [.int (nI i)]) (rest := []) CX hP hS hl.1 (cH_note l D cA hJ (xs σ 17 i ((σ.1 17 i) + 1)) 1 (by omega) (nI i)) wl_210 wl_211 wl_212 wl_2 wl_213 ⟨rfl, by decide +kernel, by decide +kernel, by decide +kernel⟩ (kw_R_ok (by omega) (by omega)) ⟨rfl, rfl⟩ (k := 4 + 1) (by omega) (wX_aH (by omega)) rfl rfl rfl rfl (Nat.le_of_ble_eq_true rfl) dX_faulted_18 (fun H locs hP hS => ?_)
  refine lv_aload_n hx hb dX_faulted_21 rfl (lv_at hl 0 rfl) ?_
  refine xX_get CX hP 5 (by omega) wl_116 rfl dX_faulted_22 ?_
  refine lv_iload_n hx hb dX_faulted_25 rfl (lv_at hl 2 rfl) ?_
  refine kx_callV0 (σ1 := hnote (hnote (xs σ 17 i ((σ.1 17 i) + 1)) 1 (nI i)) 2 x2) (n := 1) (As := [.int x2]) (rest := []) CX hP hS hl.1 (cH_note l D cA hJ (hnote (xs σ 17 i ((σ.1 17 i) + 1)) 1 (nI i)) 2 (by omega) x2) wl_210 wl_211 wl_212 wl_2 wl_213 ⟨rfl, by decide +kernel, by decide +kernel, by decide +kernel⟩ (kw_R_ok (by omega) (by omega)) ⟨rfl, rfl⟩ (k := 4 + 2) (by omega) (wX_aH (by omega)) rfl rfl rfl rfl (Nat.le_of_ble_eq_true rfl) dX_faulted_26 (fun H locs hP hS => ?_)
  refine lv_aload_n hx hb dX_faulted_29 rfl (lv_at hl 0 rfl) ?_
  refine xX_get CX hP 6 (by omega) wl_117 rfl dX_faulted_30 ?_
  refine lv_iload_n hx hb dX_faulted_33 rfl (lv_at hl 3 rfl) ?_
  refine kx_callV0 (σ1 := hnote (hnote (hnote (xs σ 17 i ((σ.1 17 i) + 1)) 1 (nI i)) 2 x2) 3 x3) (n := 1) (As := [.int x3]) (rest := []) CX hP hS hl.1 (cH_note l D cA hJ (hnote (hnote (xs σ 17 i ((σ.1 17 i) + 1)) 1 (nI i)) 2 x2) 3 (by omega) x3) wl_210 wl_211 wl_212 wl_2 wl_213 ⟨rfl, by decide +kernel, by decide +kernel, by decide +kernel⟩ (kw_R_ok (by omega) (by omega)) ⟨rfl, rfl⟩ (k := 4 + 3) (by omega) (wX_aH (by omega)) rfl rfl rfl rfl (Nat.le_of_ble_eq_true rfl) dX_faulted_34 (fun H locs hP hS => ?_)
  refine lv_aload_n hx hb dX_faulted_37 rfl (lv_at hl 1 rfl) ?_
  refine kx_callV1 (σ1 := hnote (hnote (hnote (xs σ 17 i ((σ.1 17 i) + 1)) 1 (nI i)) 2 x2) 3 x3) (v := .int (bI (shutX (hnote (hnote (hnote (xs σ 17 i ((σ.1 17 i) + 1)) 1 (nI i)) 2 x2) 3 x3) i = true))) (n := 0) (As := []) (rest := []) CX hP hS hl.1 (cE_isShutOut l D cA hJ (hnote (hnote (hnote (xs σ 17 i ((σ.1 17 i) + 1)) 1 (nI i)) 2 x2) 3 x3) i (by omega)) wl_254 wl_255 wl_256 wl_4 wl_257 ⟨rfl, by decide +kernel, by decide +kernel, by decide +kernel⟩ (kw_R_ok (by omega) (by omega)) ⟨rfl, rfl⟩ (k := 20 + i) (by omega) wX_aE rfl rfl rfl rfl (Nat.le_of_ble_eq_true rfl) dX_faulted_38 (fun H locs hP hS => ?_)
  refine lv_if_eq (tgt := 58) hx hb dX_faulted_41 (by decide) (fun c_41 => ?_) (fun c_41 => ?_)
  · have c_41 := bI_eq0.mp c_41
    refine lv_iload hx hb dX_faulted_58 (lv_at hl 4 rfl) ?_
    exact kx_iret (σ' := hnote (hnote (hnote (xs σ 17 i ((σ.1 17 i) + 1)) 1 (nI i)) 2 x2) 3 x3) CX hP hS dX_faulted_60 (by refine ⟨rfl, ?_⟩; rw [x_faulted]; exact if_neg c_41)
  · have c_41 := bI_ne0.mp c_41
    refine lv_aload_n hx hb dX_faulted_44 rfl (lv_at hl 0 rfl) ?_
    refine xX_get CX hP 3 (by omega) wl_114 rfl dX_faulted_45 ?_
    refine lv_bipush (v := 60) hx hb dX_faulted_48 (by decide) ?_
    refine lv_aload_n hx hb dX_faulted_50 rfl (lv_at hl 1 rfl) ?_
    refine xE_get CX hP (by omega) 0 (by omega) wl_81 rfl dX_faulted_51 ?_
    refine lv_iadd hx hb dX_faulted_54 ?_
    refine kx_topi (v' := nI (60 + i)) (nI_add 60 i) ?_
    refine kx_callV0 (σ1 := hnote (hnote (hnote (hnote (xs σ 17 i ((σ.1 17 i) + 1)) 1 (nI i)) 2 x2) 3 x3) 0 (nI (60 + i))) (n := 1) (As := [.int (nI (60 + i))]) (rest := []) CX hP hS hl.1 (cH_note l D cA hJ (hnote (hnote (hnote (xs σ 17 i ((σ.1 17 i) + 1)) 1 (nI i)) 2 x2) 3 x3) 0 (by omega) (nI (60 + i))) wl_210 wl_211 wl_212 wl_2 wl_213 ⟨rfl, by decide +kernel, by decide +kernel, by decide +kernel⟩ (kw_R_ok (by omega) (by omega)) ⟨rfl, rfl⟩ (k := 4 + 0) (by omega) (wX_aH (by omega)) rfl rfl rfl rfl (Nat.le_of_ble_eq_true rfl) dX_faulted_55 (fun H locs hP hS => ?_)
    refine lv_iload hx hb dX_faulted_58 (lv_at hl 4 rfl) ?_
    exact kx_iret (σ' := hnote (hnote (hnote (hnote (xs σ 17 i ((σ.1 17 i) + 1)) 1 (nI i)) 2 x2) 3 x3) 0 (nI (60 + i))) CX hP hS dX_faulted_60 (by refine ⟨rfl, ?_⟩; rw [x_faulted]; exact if_pos c_41)
set_option maxRecDepth 100000 in
set_option maxHeartbeats 800000 in
theorem cX_divide (l : Launch) (D : va_G) (cA : Nat → ClassId) {ad : Nat → Nat} (hJ : kw_J 36 ad) (σ : XS) (i : Nat) (hi : i < 16) (x2 : Int32) : kx_Met l yX_divide (.code yX_divide bX_divide 3 (Option.some .int) :: kw_T) (kw_R 2) D (kx_tys cA) 36 ad (wX cA ad) σ [.ref (ad 0), .ref (ad (20 + i)), .int x2] (fun r9 u9 => r9 = some (.int ((x_divide σ i x2).1)) ∧ (x_divide σ i x2).2 = u9) := by
  refine kx_of hJ (by decide +kernel) (Nat.le_of_ble_eq_true rfl) ?_
  intro p e s m args below meth c CX ls hl hP hS
  obtain ⟨hx, hb, hr, hml, hown, hts, hlk, hK, hJ1, hZ⟩ := id CX
  have hl : lv_has ls 3 [(0, .ref (ad 0)), (1, .ref (ad (20 + i))), (2, .int x2)] := hl
  refine lv_aload_n hx hb dX_divide_0 rfl (lv_at hl 1 rfl) ?_
  refine xE_get CX hP (by omega) 5 (by omega) wl_87 rfl dX_divide_1 ?_
  refine lv_if_ne (tgt := 16) hx hb dX_divide_4 (by decide) (fun c_4 => ?_) (fun c_4 => ?_)
  · skip
    refine lv_iload_n hx hb dX_divide_16 rfl (lv_at hl 2 rfl) ?_
    refine lv_aload_n hx hb dX_divide_17 rfl (lv_at hl 1 rfl) ?_
    refine xE_get CX hP (by omega) 5 (by omega) wl_87 rfl dX_divide_18 ?_
    refine lv_idiv hx hb dX_divide_21 (by assumption) ?_
    exact kx_iret (σ' := σ) CX hP hS dX_divide_22 (by constructor <;> simp [bI, c_4, x_divide])
  · skip
    refine lv_aload_n hx hb dX_divide_7 rfl (lv_at hl 0 rfl) ?_
    refine lv_aload_n hx hb dX_divide_8 rfl (lv_at hl 1 rfl) ?_
    refine lv_iconst (v := 1) hx hb dX_divide_9 (by decide) ?_
    refine lv_iconst (v := (-1)) hx hb dX_divide_10 (by decide) ?_
    refine lv_iload_n hx hb dX_divide_11 rfl (lv_at hl 2 rfl) ?_
    refine kx_callV1 (σ1 := x_faulted σ i 1 (-1)) (v := .int x2) (n := 4) (As := [.ref (ad (20 + i)), .int 1, .int (-1), .int x2]) (rest := []) CX hP hS hl.1 (cX_faulted l D cA hJ σ i (by omega) 1 (-1) x2) wl_266 wl_268 wp_14 wl_1 wl_269 ⟨rfl, by decide +kernel, by decide +kernel, by decide +kernel⟩ (kw_R_ok (by omega) (by omega)) ⟨rfl, rfl⟩ (k := 0) (by omega) rfl rfl rfl rfl rfl (Nat.le_of_ble_eq_true rfl) dX_divide_12 (fun H locs hP hS => ?_)
    exact kx_iret (σ' := x_faulted σ i 1 (-1)) CX hP hS dX_divide_15 (by constructor <;> simp [bI, c_4, x_divide])
set_option maxRecDepth 100000 in
set_option maxHeartbeats 800000 in
theorem cX_look (l : Launch) (D : va_G) (cA : Nat → ClassId) {ad : Nat → Nat} (hJ : kw_J 36 ad) (σ : XS) (i : Nat) (hi : i < 16) (x2 : Int32) : kx_Met l yX_look (.code yX_look bX_look 4 (Option.some .int) :: kw_T) (kw_R 2) D (kx_tys cA) 36 ad (wX cA ad) σ [.ref (ad 0), .ref (ad (20 + i)), .int x2] (fun r9 u9 => r9 = some (.int ((x_look σ i x2).1)) ∧ (x_look σ i x2).2 = u9) := by
  refine kx_of hJ (by decide +kernel) (Nat.le_of_ble_eq_true rfl) ?_
  intro p e s m args below meth c CX ls hl hP hS
  obtain ⟨hx, hb, hr, hml, hown, hts, hlk, hK, hJ1, hZ⟩ := id CX
  have hl : lv_has ls 4 [(0, .ref (ad 0)), (1, .ref (ad (20 + i))), (2, .int x2)] := hl
  refine lv_iload_n hx hb dX_look_0 rfl (lv_at hl 2 rfl) ?_
  refine lv_aload_n hx hb dX_look_1 rfl (lv_at hl 1 rfl) ?_
  refine xE_get CX hP (by omega) 5 (by omega) wl_87 rfl dX_look_2 ?_
  refine lv_ixor hx hb dX_look_5 ?_
  refine lv_bipush (v := 15) hx hb dX_look_6 (by decide) ?_
  refine lv_iand hx hb dX_look_8 ?_
  have hlo := lo4_lt (x2 ^^^ σ.1 15 i)
  refine kx_topi (v' := nI (lo4 (x2 ^^^ (σ.1 15 i)))) (and15 _) ?_
  refine lv_istore_n (lv' := [(3, .int (nI (lo4 (x2 ^^^ (σ.1 15 i))))), (0, .ref (ad 0)), (1, .ref (ad (20 + i))), (2, .int x2)]) hx hb dX_look_9 rfl hl (by decide) rfl (fun ls hl => ?_)
  refine lv_iload_n hx hb dX_look_10 rfl (lv_at hl 0 rfl) ?_
  obtain ⟨tq, hZ1, hZ2⟩ := id hZ
  refine va_gets hx hb hZ1 hS hown (hts _ wl_274) (fun _ h => h) dX_look_11 ?_
  refine va_tlen (v := 12) hx hb hZ2 hS rfl dX_look_14 ?_
  refine lv_icmp_lt (tgt := 27) hx hb dX_look_15 (by decide) (fun c_15 => ?_) (fun c_15 => ?_)
  · have c_15i := c_15
    have c_15 : lo4 (x2 ^^^ (σ.1 15 i)) < 12 := (nI_lt' (a := lo4 (x2 ^^^ (σ.1 15 i))) (b := 12) (by omega) (by omega)).mp c_15
    obtain ⟨tq, hZ1, hZ2⟩ := id hZ
    refine va_gets hx hb hZ1 hS hown (hts _ wl_274) (fun _ h => h) dX_look_27 ?_
    refine lv_iload_n hx hb dX_look_30 rfl (lv_at hl 0 rfl) ?_
    refine va_ti (v := .int (kx_tbl (lo4 (x2 ^^^ (σ.1 15 i))))) hx hb hZ2 hS (vp_in_nI (by omega) (by omega)) (by rw [nI_clamp (by omega)]) dX_look_31 ?_
    exact kx_iret (σ' := σ) CX hP hS dX_look_32 (by constructor <;> simp [bI, c_15, c_15i, x_look])
  · have c_15i := c_15
    have c_15 : ¬ (lo4 (x2 ^^^ (σ.1 15 i)) < 12) := fun hq9 => c_15 ((nI_lt' (a := lo4 (x2 ^^^ (σ.1 15 i))) (b := 12) (by omega) (by omega)).mpr hq9)
    refine lv_aload_n hx hb dX_look_18 rfl (lv_at hl 1 rfl) ?_
    refine lv_aload_n hx hb dX_look_19 rfl (lv_at hl 2 rfl) ?_
    refine lv_iconst (v := 2) hx hb dX_look_20 (by decide) ?_
    refine lv_iconst (v := (-1)) hx hb dX_look_21 (by decide) ?_
    refine lv_iload_n hx hb dX_look_22 rfl (lv_at hl 3 rfl) ?_
    refine kx_callV1 (σ1 := x_faulted σ i 2 (-1)) (v := .int x2) (n := 4) (As := [.ref (ad (20 + i)), .int 2, .int (-1), .int x2]) (rest := []) CX hP hS hl.1 (cX_faulted l D cA hJ σ i (by omega) 2 (-1) x2) wl_266 wl_268 wp_14 wl_1 wl_269 ⟨rfl, by decide +kernel, by decide +kernel, by decide +kernel⟩ (kw_R_ok (by omega) (by omega)) ⟨rfl, rfl⟩ (k := 0) (by omega) rfl rfl rfl rfl rfl (Nat.le_of_ble_eq_true rfl) dX_look_23 (fun H locs hP hS => ?_)
    exact kx_iret (σ' := x_faulted σ i 2 (-1)) CX hP hS dX_look_26 (by constructor <;> simp [bI, c_15, c_15i, x_look])
set_option maxRecDepth 100000 in
set_option maxHeartbeats 800000 in
theorem cX_ask (l : Launch) (D : va_G) (cA : Nat → ClassId) {ad : Nat → Nat} (hJ : kw_J 36 ad) (σ : XS) (i : Nat) (hi : i < 16) (x2 : Int32) : kx_Met l yX_ask (.code yX_ask bX_ask 4 (Option.some .int) :: kw_T) (kw_R 2) D (kx_tys cA) 36 ad (wX cA ad) σ [.ref (ad 0), .ref (ad (20 + i)), .int x2] (fun r9 u9 => r9 = some (.int ((x_ask σ i x2).1)) ∧ (x_ask σ i x2).2 = u9) := by
  have hl3 := lo3_lt (σ.1 15 i)
  refine kx_of hJ (by decide +kernel) (Nat.le_of_ble_eq_true rfl) ?_
  intro p e s m args below meth c CX ls hl hP hS
  obtain ⟨hx, hb, hr, hml, hown, hts, hlk, hK, hJ1, hZ⟩ := id CX
  have hl : lv_has ls 4 [(0, .ref (ad 0)), (1, .ref (ad (20 + i))), (2, .int x2)] := hl
  refine lv_aload_n hx hb dX_ask_0 rfl (lv_at hl 0 rfl) ?_
  refine xX_get CX hP 0 (by omega) wl_111 rfl dX_ask_1 ?_
  refine lv_aload_n hx hb dX_ask_4 rfl (lv_at hl 1 rfl) ?_
  refine xE_get CX hP (by omega) 5 (by omega) wl_87 rfl dX_ask_5 ?_
  refine lv_bipush (v := 7) hx hb dX_ask_8 (by decide) ?_
  refine lv_iand hx hb dX_ask_10 ?_
  refine xA_P CX hP (lo3 (σ.1 15 i)) (and7 _) (lo3_lt _) dX_ask_11 ?_
  refine lv_astore_n (lv' := [(3, .ref (ad (12 + (lo3 (σ.1 15 i))))), (0, .ref (ad 0)), (1, .ref (ad (20 + i))), (2, .int x2)]) hx hb dX_ask_12 rfl hl (by decide) rfl (fun ls hl => ?_)
  refine lv_aload_n hx hb dX_ask_13 rfl (lv_at hl 0 rfl) ?_
  refine xP_get CX hP (by omega) 1 (by omega) wl_44 rfl dX_ask_14 ?_
  refine lv_iconst (v := 2) hx hb dX_ask_17 (by decide) ?_
  refine lv_icmp_ne (tgt := 28) hx hb dX_ask_18 (by decide) (fun c_18 => ?_) (fun c_18 => ?_)
  · skip
    refine lv_aload_n hx hb dX_ask_28 rfl (lv_at hl 1 rfl) ?_
    refine lv_aload_n hx hb dX_ask_29 rfl (lv_at hl 2 rfl) ?_
    refine lv_iconst (v := 4) hx hb dX_ask_30 (by decide) ?_
    refine lv_aload_n hx hb dX_ask_31 rfl (lv_at hl 0 rfl) ?_
    refine xP_get CX hP (by omega) 0 (by omega) wl_43 rfl dX_ask_32 ?_
    refine lv_iload_n hx hb dX_ask_35 rfl (lv_at hl 3 rfl) ?_
    refine kx_callV1 (σ1 := x_faulted σ i 4 (nI ((lo3 (σ.1 15 i))))) (v := .int x2) (n := 4) (As := [.ref (ad (20 + i)), .int 4, .int (nI ((lo3 (σ.1 15 i)))), .int x2]) (rest := []) CX hP hS hl.1 (cX_faulted l D cA hJ σ i (by omega) 4 (nI ((lo3 (σ.1 15 i)))) x2) wl_266 wl_268 wp_14 wl_1 wl_269 ⟨rfl, by decide +kernel, by decide +kernel, by decide +kernel⟩ (kw_R_ok (by omega) (by omega)) ⟨rfl, rfl⟩ (k := 0) (by omega) rfl rfl rfl rfl rfl (Nat.le_of_ble_eq_true rfl) dX_ask_36 (fun H locs hP hS => ?_)
    exact kx_iret (σ' := x_faulted σ i 4 (nI ((lo3 (σ.1 15 i))))) CX hP hS dX_ask_39 (by constructor <;> simp [bI, c_18, x_ask])
  · skip
    refine lv_aload_n hx hb dX_ask_21 rfl (lv_at hl 0 rfl) ?_
    refine xP_get CX hP (by omega) 4 (by omega) wl_51 rfl dX_ask_22 ?_
    refine lv_if_ne (tgt := 40) hx hb dX_ask_25 (by decide) (fun c_25 => ?_) (fun c_25 => ?_)
    · skip
      refine lv_aload_n hx hb dX_ask_40 rfl (lv_at hl 0 rfl) ?_
      refine xP_get CX hP (by omega) 4 (by omega) wl_51 rfl dX_ask_41 ?_
      refine lv_iconst (v := 2) hx hb dX_ask_44 (by decide) ?_
      refine lv_icmp_ne (tgt := 60) hx hb dX_ask_45 (by decide) (fun c_45 => ?_) (fun c_45 => ?_)
      · skip
        refine lv_iload_n hx hb dX_ask_60 rfl (lv_at hl 3 rfl) ?_
        refine lv_aload_n hx hb dX_ask_61 rfl (lv_at hl 0 rfl) ?_
        refine xP_get CX hP (by omega) 5 (by omega) wl_52 rfl dX_ask_62 ?_
        refine lv_iadd hx hb dX_ask_65 ?_
        exact kx_iret (σ' := σ) CX hP hS dX_ask_66 (by constructor <;> simp [bI, c_18, c_25, c_45, x_ask])
      · skip
        refine lv_aload_n hx hb dX_ask_48 rfl (lv_at hl 1 rfl) ?_
        refine lv_aload_n hx hb dX_ask_49 rfl (lv_at hl 2 rfl) ?_
        refine lv_iconst (v := 3) hx hb dX_ask_50 (by decide) ?_
        refine lv_aload_n hx hb dX_ask_51 rfl (lv_at hl 0 rfl) ?_
        refine xP_get CX hP (by omega) 0 (by omega) wl_43 rfl dX_ask_52 ?_
        refine lv_iload_n hx hb dX_ask_55 rfl (lv_at hl 3 rfl) ?_
        refine kx_callV1 (σ1 := x_faulted σ i 3 (nI ((lo3 (σ.1 15 i))))) (v := .int x2) (n := 4) (As := [.ref (ad (20 + i)), .int 3, .int (nI ((lo3 (σ.1 15 i)))), .int x2]) (rest := []) CX hP hS hl.1 (cX_faulted l D cA hJ σ i (by omega) 3 (nI ((lo3 (σ.1 15 i)))) x2) wl_266 wl_268 wp_14 wl_1 wl_269 ⟨rfl, by decide +kernel, by decide +kernel, by decide +kernel⟩ (kw_R_ok (by omega) (by omega)) ⟨rfl, rfl⟩ (k := 0) (by omega) rfl rfl rfl rfl rfl (Nat.le_of_ble_eq_true rfl) dX_ask_56 (fun H locs hP hS => ?_)
        exact kx_iret (σ' := x_faulted σ i 3 (nI ((lo3 (σ.1 15 i))))) CX hP hS dX_ask_59 (by constructor <;> simp [bI, c_18, c_25, c_45, x_ask])
    · skip
      refine lv_aload_n hx hb dX_ask_28 rfl (lv_at hl 1 rfl) ?_
      refine lv_aload_n hx hb dX_ask_29 rfl (lv_at hl 2 rfl) ?_
      refine lv_iconst (v := 4) hx hb dX_ask_30 (by decide) ?_
      refine lv_aload_n hx hb dX_ask_31 rfl (lv_at hl 0 rfl) ?_
      refine xP_get CX hP (by omega) 0 (by omega) wl_43 rfl dX_ask_32 ?_
      refine lv_iload_n hx hb dX_ask_35 rfl (lv_at hl 3 rfl) ?_
      refine kx_callV1 (σ1 := x_faulted σ i 4 (nI ((lo3 (σ.1 15 i))))) (v := .int x2) (n := 4) (As := [.ref (ad (20 + i)), .int 4, .int (nI ((lo3 (σ.1 15 i)))), .int x2]) (rest := []) CX hP hS hl.1 (cX_faulted l D cA hJ σ i (by omega) 4 (nI ((lo3 (σ.1 15 i)))) x2) wl_266 wl_268 wp_14 wl_1 wl_269 ⟨rfl, by decide +kernel, by decide +kernel, by decide +kernel⟩ (kw_R_ok (by omega) (by omega)) ⟨rfl, rfl⟩ (k := 0) (by omega) rfl rfl rfl rfl rfl (Nat.le_of_ble_eq_true rfl) dX_ask_36 (fun H locs hP hS => ?_)
      exact kx_iret (σ' := x_faulted σ i 4 (nI ((lo3 (σ.1 15 i))))) CX hP hS dX_ask_39 (by constructor <;> simp [bI, c_18, c_25, x_ask])
set_option maxRecDepth 100000 in
set_option maxHeartbeats 800000 in
theorem cX_bracket (l : Launch) (D : va_G) (cA : Nat → ClassId) {ad : Nat → Nat} (hJ : kw_J 36 ad) (σ : XS) (i : Nat) (hi : i < 16) (x2 : Int32) : kx_Met l yX_bracket (.code yX_bracket bX_bracket 3 (Option.some .int) :: kw_T) (kw_R 2) D (kx_tys cA) 36 ad (wX cA ad) σ [.ref (ad 0), .ref (ad (20 + i)), .int x2] (fun r9 u9 => r9 = some (.int ((x_bracket σ i x2).1)) ∧ (x_bracket σ i x2).2 = u9) := by
  refine kx_of hJ (by decide +kernel) (Nat.le_of_ble_eq_true rfl) ?_
  intro p e s m args below meth c CX ls hl hP hS
  obtain ⟨hx, hb, hr, hml, hown, hts, hlk, hK, hJ1, hZ⟩ := id CX
  have hl : lv_has ls 3 [(0, .ref (ad 0)), (1, .ref (ad (20 + i))), (2, .int x2)] := hl
  refine lv_aload_n hx hb dX_bracket_0 rfl (lv_at hl 0 rfl) ?_
  refine xX_get CX hP 3 (by omega) wl_114 rfl dX_bracket_1 ?_
  refine lv_bipush (v := 40) hx hb dX_bracket_4 (by decide) ?_
  refine lv_aload_n hx hb dX_bracket_6 rfl (lv_at hl 1 rfl) ?_
  refine xE_get CX hP (by omega) 0 (by omega) wl_81 rfl dX_bracket_7 ?_
  refine lv_iadd hx hb dX_bracket_10 ?_
  refine kx_topi (v' := nI (40 + i)) (nI_add 40 i) ?_
  refine kx_callV0 (σ1 := hnote σ 0 (nI (40 + i))) (n := 1) (As := [.int (nI (40 + i))]) (rest := []) CX hP hS hl.1 (cH_note l D cA hJ σ 0 (by omega) (nI (40 + i))) wl_210 wl_211 wl_212 wl_2 wl_213 ⟨rfl, by decide +kernel, by decide +kernel, by decide +kernel⟩ (kw_R_ok (by omega) (by omega)) ⟨rfl, rfl⟩ (k := 4 + 0) (by omega) (wX_aH (by omega)) rfl rfl rfl rfl (Nat.le_of_ble_eq_true rfl) dX_bracket_11 (fun H locs hP hS => ?_)
  refine lv_iload_n hx hb dX_bracket_14 rfl (lv_at hl 2 rfl) ?_
  refine lv_aload_n hx hb dX_bracket_15 rfl (lv_at hl 1 rfl) ?_
  refine xE_get CX hP (by omega) 5 (by omega) wl_87 rfl dX_bracket_16 ?_
  refine lv_icmp_ne (tgt := 32) hx hb dX_bracket_19 (by decide) (fun c_19 => ?_) (fun c_19 => ?_)
  · skip
    refine lv_iconst (v := 2) hx hb dX_bracket_32 (by decide) ?_
    refine lv_iload_n hx hb dX_bracket_33 rfl (lv_at hl 2 rfl) ?_
    refine lv_imul hx hb dX_bracket_34 ?_
    exact kx_iret (σ' := hnote σ 0 (nI (40 + i))) CX hP hS dX_bracket_35 (by constructor <;> simp [bI, c_19, x_bracket])
  · skip
    refine lv_aload_n hx hb dX_bracket_22 rfl (lv_at hl 0 rfl) ?_
    refine lv_aload_n hx hb dX_bracket_23 rfl (lv_at hl 1 rfl) ?_
    refine lv_bipush (v := 6) hx hb dX_bracket_24 (by decide) ?_
    refine lv_iconst (v := (-1)) hx hb dX_bracket_26 (by decide) ?_
    refine lv_iload_n hx hb dX_bracket_27 rfl (lv_at hl 2 rfl) ?_
    refine kx_callV1 (σ1 := x_faulted (hnote σ 0 (nI (40 + i))) i 6 (-1)) (v := .int x2) (n := 4) (As := [.ref (ad (20 + i)), .int 6, .int (-1), .int x2]) (rest := []) CX hP hS hl.1 (cX_faulted l D cA hJ (hnote σ 0 (nI (40 + i))) i (by omega) 6 (-1) x2) wl_266 wl_268 wp_14 wl_1 wl_269 ⟨rfl, by decide +kernel, by decide +kernel, by decide +kernel⟩ (kw_R_ok (by omega) (by omega)) ⟨rfl, rfl⟩ (k := 0) (by omega) rfl rfl rfl rfl rfl (Nat.le_of_ble_eq_true rfl) dX_bracket_28 (fun H locs hP hS => ?_)
    exact kx_iret (σ' := x_faulted (hnote σ 0 (nI (40 + i))) i 6 (-1)) CX hP hS dX_bracket_31 (by constructor <;> simp [bI, c_19, x_bracket])
set_option maxRecDepth 100000 in
set_option maxHeartbeats 800000 in
theorem cX_nest_0 (l : Launch) (D : va_G) (cA : Nat → ClassId) {ad : Nat → Nat} (hJ : kw_J 36 ad) (σ : XS) (i : Nat) (hi : i < 16) (x2 : Int32) : kx_Met l yX_nest (.code yX_nest bX_nest 5 (Option.some .int) :: kw_T) (kw_R 2) D (kx_tys cA) 36 ad (wX cA ad) σ [.ref (ad 0), .ref (ad (20 + i)), .int x2, .int (nI 3)] (fun r9 u9 => r9 = some (.int ((x_nest 0 σ i x2).1)) ∧ (x_nest 0 σ i x2).2 = u9) := by
  refine kx_of hJ (by decide +kernel) (Nat.le_of_ble_eq_true rfl) ?_
  intro p e s m args below meth c CX ls hl hP hS
  obtain ⟨hx, hb, hr, hml, hown, hts, hlk, hK, hJ1, hZ⟩ := id CX
  have hl : lv_has ls 5 [(0, .ref (ad 0)), (1, .ref (ad (20 + i))), (2, .int x2), (3, .int (nI 3))] := hl
  refine lv_iload_n hx hb dX_nest_0 rfl (lv_at hl 3 rfl) ?_
  refine lv_iconst (v := 3) hx hb dX_nest_1 (by decide) ?_
  refine lv_icmp_lt (tgt := 18) hx hb dX_nest_2 (by decide) (fun c_2 => ?_) (fun c_2 => ?_)
  · have c_2i := c_2
    have c_2 : 3 < 3 := (nI_lt' (a := 3) (b := 3) (by omega) (by omega)).mp c_2
    exact absurd c_2 (by omega)
  · have c_2i := c_2
    have c_2 : ¬ (3 < 3) := fun hq9 => c_2 ((nI_lt' (a := 3) (b := 3) (by omega) (by omega)).mpr hq9)
    refine lv_aload_n hx hb dX_nest_5 rfl (lv_at hl 0 rfl) ?_
    refine lv_aload_n hx hb dX_nest_6 rfl (lv_at hl 1 rfl) ?_
    refine lv_bipush (v := 7) hx hb dX_nest_7 (by decide) ?_
    refine lv_aload_n hx hb dX_nest_9 rfl (lv_at hl 1 rfl) ?_
    refine xE_get CX hP (by omega) 2 (by omega) wl_84 rfl dX_nest_10 ?_
    refine lv_iload_n hx hb dX_nest_13 rfl (lv_at hl 2 rfl) ?_
    refine kx_callV1 (σ1 := x_faulted σ i 7 (σ.1 12 i)) (v := .int x2) (n := 4) (As := [.ref (ad (20 + i)), .int 7, .int (σ.1 12 i), .int x2]) (rest := []) CX hP hS hl.1 (cX_faulted l D cA hJ σ i (by omega) 7 (σ.1 12 i) x2) wl_266 wl_268 wp_14 wl_1 wl_269 ⟨rfl, by decide +kernel, by decide +kernel, by decide +kernel⟩ (kw_R_ok (by omega) (by omega)) ⟨rfl, rfl⟩ (k := 0) (by omega) rfl rfl rfl rfl rfl (Nat.le_of_ble_eq_true rfl) dX_nest_14 (fun H locs hP hS => ?_)
    exact kx_iret (σ' := x_faulted σ i 7 (σ.1 12 i)) CX hP hS dX_nest_17 (⟨rfl, rfl⟩)
set_option maxRecDepth 100000 in
set_option maxHeartbeats 800000 in
theorem cX_nest_s (l : Launch) (D : va_G) (cA : Nat → ClassId) {ad : Nat → Nat} (hJ : kw_J 36 ad) (r d : Nat) (hd : d < 3) (hC : ∀ (σ : XS) (x1 x2 : Int32), x_ok σ → kx_Met l yX_callPoint (.code yX_callPoint bX_callPoint 9 (Option.some .int) :: kw_T) (kw_R (3 * r + 4)) D (kx_tys cA) 36 ad (wX cA ad) σ [.ref (ad 0), .int x1, .int x2, .int (nI (d + 1))] (fun r9 u => r9 = some (.int (x_callP r σ x1 x2).1) ∧ (x_callP r σ x1 x2).2 = u)) (σ : XS) (i : Nat) (hi : i < 16) (x2 : Int32) (hok : x_ok σ) : kx_Met l yX_nest (.code yX_nest bX_nest 5 (Option.some .int) :: kw_T) (kw_R (3 * (r + 1) + 2)) D (kx_tys cA) 36 ad (wX cA ad) σ [.ref (ad 0), .ref (ad (20 + i)), .int x2, .int (nI d)] (fun r9 u9 => r9 = some (.int ((x_nest (r + 1) σ i x2).1)) ∧ (x_nest (r + 1) σ i x2).2 = u9) := by
  refine kx_of hJ (by decide +kernel) (Nat.le_of_ble_eq_true rfl) ?_
  intro p e s m args below meth c CX ls hl hP hS
  obtain ⟨hx, hb, hr, hml, hown, hts, hlk, hK, hJ1, hZ⟩ := id CX
  have hl : lv_has ls 5 [(0, .ref (ad 0)), (1, .ref (ad (20 + i))), (2, .int x2), (3, .int (nI d))] := hl
  refine lv_iload_n hx hb dX_nest_0 rfl (lv_at hl 3 rfl) ?_
  refine lv_iconst (v := 3) hx hb dX_nest_1 (by decide) ?_
  refine lv_icmp_lt (tgt := 18) hx hb dX_nest_2 (by decide) (fun c_2 => ?_) (fun c_2 => ?_)
  · have c_2i := c_2
    have c_2 : d < 3 := (nI_lt' (a := d) (b := 3) (by omega) (by omega)).mp c_2
    refine lv_aload_n hx hb dX_nest_18 rfl (lv_at hl 1 rfl) ?_
    refine xE_get CX hP (by omega) 5 (by omega) wl_87 rfl dX_nest_19 ?_
    refine lv_iconst (v := 3) hx hb dX_nest_22 (by decide) ?_
    refine lv_iand hx hb dX_nest_23 ?_
    refine lv_istore (lv' := [(4, .int ((σ.1 15 i) &&& 3)), (0, .ref (ad 0)), (1, .ref (ad (20 + i))), (2, .int x2), (3, .int (nI d))]) hx hb dX_nest_24 hl (by decide) rfl (fun ls hl => ?_)
    refine lv_aload_n hx hb dX_nest_26 rfl (lv_at hl 1 rfl) ?_
    refine lv_iload hx hb dX_nest_27 (lv_at hl 0 rfl) ?_
    refine lv_iconst (v := 3) hx hb dX_nest_29 (by decide) ?_
    refine lv_icmp_ne (tgt := 37) hx hb dX_nest_30 (by decide) (fun c_30 => ?_) (fun c_30 => ?_)
    · skip
      refine lv_iload hx hb dX_nest_37 (lv_at hl 0 rfl) ?_
      refine lv_iload_n hx hb dX_nest_39 rfl (lv_at hl 3 rfl) ?_
      refine lv_iconst (v := 1) hx hb dX_nest_40 (by decide) ?_
      refine lv_iadd hx hb dX_nest_41 ?_
      refine lv_iload_n hx hb dX_nest_42 rfl (lv_at hl 4 rfl) ?_
      refine lv_iconst (v := 1) hx hb dX_nest_43 (by decide) ?_
      refine lv_iadd hx hb dX_nest_44 ?_
      refine kx_topi (v' := nI (d + 1)) (nI_add d 1) ?_
      refine kx_callV1 (σ1 := (x_callP r σ ((σ.1 15 i) &&& 3) (x2 + 1)).2) (v := .int ((x_callP r σ ((σ.1 15 i) &&& 3) (x2 + 1)).1)) (n := 3) (As := [.int ((σ.1 15 i) &&& 3), .int (x2 + 1), .int (nI (d + 1))]) (rest := []) CX hP hS hl.1 (hC σ ((σ.1 15 i) &&& 3) (x2 + 1) hok) wl_242 wl_244 wp_9 wl_1 wl_245 ⟨rfl, by decide +kernel, by decide +kernel, by decide +kernel⟩ (kw_R_ok (by omega) (by omega)) ⟨rfl, rfl⟩ (k := 0) (by omega) rfl rfl rfl rfl rfl (Nat.le_of_ble_eq_true rfl) dX_nest_45 (fun H locs hP hS => ?_)
      exact kx_iret (σ' := (x_callP r σ ((σ.1 15 i) &&& 3) (x2 + 1)).2) CX hP hS dX_nest_48 (by constructor <;> simp [x_nest, x_ptOf, c_30])
    · skip
      refine lv_iconst (v := 0) hx hb dX_nest_33 (by decide) ?_
      refine lv_goto (tgt := 39) hx hb dX_nest_34 (by decide) ?_
      refine lv_iload_n hx hb dX_nest_39 rfl (lv_at hl 3 rfl) ?_
      refine lv_iconst (v := 1) hx hb dX_nest_40 (by decide) ?_
      refine lv_iadd hx hb dX_nest_41 ?_
      refine lv_iload_n hx hb dX_nest_42 rfl (lv_at hl 4 rfl) ?_
      refine lv_iconst (v := 1) hx hb dX_nest_43 (by decide) ?_
      refine lv_iadd hx hb dX_nest_44 ?_
      refine kx_topi (v' := nI (d + 1)) (nI_add d 1) ?_
      refine kx_callV1 (σ1 := (x_callP r σ 0 (x2 + 1)).2) (v := .int ((x_callP r σ 0 (x2 + 1)).1)) (n := 3) (As := [.int 0, .int (x2 + 1), .int (nI (d + 1))]) (rest := []) CX hP hS hl.1 (hC σ 0 (x2 + 1) hok) wl_242 wl_244 wp_9 wl_1 wl_245 ⟨rfl, by decide +kernel, by decide +kernel, by decide +kernel⟩ (kw_R_ok (by omega) (by omega)) ⟨rfl, rfl⟩ (k := 0) (by omega) rfl rfl rfl rfl rfl (Nat.le_of_ble_eq_true rfl) dX_nest_45 (fun H locs hP hS => ?_)
      exact kx_iret (σ' := (x_callP r σ 0 (x2 + 1)).2) CX hP hS dX_nest_48 (by constructor <;> simp [x_nest, x_ptOf, c_30])
  · have c_2i := c_2
    have c_2 : ¬ (d < 3) := fun hq9 => c_2 ((nI_lt' (a := d) (b := 3) (by omega) (by omega)).mpr hq9)
    exact absurd c_2 (by omega)
set_option maxRecDepth 100000 in
set_option maxHeartbeats 800000 in
theorem cX_passThrough (l : Launch) (D : va_G) (cA : Nat → ClassId) {ad : Nat → Nat} (hJ : kw_J 36 ad) (r d : Nat) (hN : ∀ (σ : XS) (i : Nat) (x2 : Int32), i < 16 → x_ok σ → kx_Met l yX_nest (.code yX_nest bX_nest 5 (Option.some .int) :: kw_T) (kw_R (3 * r + 2)) D (kx_tys cA) 36 ad (wX cA ad) σ [.ref (ad 0), .ref (ad (20 + i)), .int x2, .int (nI d)] (fun r9 u => r9 = some (.int (x_nest r σ i x2).1) ∧ (x_nest r σ i x2).2 = u)) (σ : XS) (i : Nat) (hi : i < 16) (x2 : Int32) (hok : x_ok σ) : kx_Met l yX_passThrough (.code yX_passThrough bX_passThrough 4 (Option.some .int) :: kw_T) (kw_R (3 * r + 3)) D (kx_tys cA) 36 ad (wX cA ad) σ [.ref (ad 0), .ref (ad (20 + i)), .int x2, .int (nI d)] (fun r9 u9 => r9 = some (.int ((x_pass (x_nest r) σ i x2).1)) ∧ (x_pass (x_nest r) σ i x2).2 = u9) := by
  refine kx_of hJ (by decide +kernel) (Nat.le_of_ble_eq_true rfl) ?_
  intro p e s m args below meth c CX ls hl hP hS
  obtain ⟨hx, hb, hr, hml, hown, hts, hlk, hK, hJ1, hZ⟩ := id CX
  have hl : lv_has ls 4 [(0, .ref (ad 0)), (1, .ref (ad (20 + i))), (2, .int x2), (3, .int (nI d))] := hl
  refine lv_aload_n hx hb dX_passThrough_0 rfl (lv_at hl 1 rfl) ?_
  refine xE_get CX hP (by omega) 4 (by omega) wl_86 rfl dX_passThrough_1 ?_
  by_cases k_4_0 : σ.1 14 i = 0
  · refine lv_tableIn (tgt := 56) (off := 52) hx hb dX_passThrough_4 (by rw [k_4_0]; decide) (by rw [k_4_0]; decide) (by rw [k_4_0]; decide) (by decide) ?_
    refine lv_iload_n hx hb dX_passThrough_56 rfl (lv_at hl 2 rfl) ?_
    refine lv_aload_n hx hb dX_passThrough_57 rfl (lv_at hl 1 rfl) ?_
    refine xE_get CX hP (by omega) 5 (by omega) wl_87 rfl dX_passThrough_58 ?_
    refine lv_iadd hx hb dX_passThrough_61 ?_
    exact kx_iret (σ' := σ) CX hP hS dX_passThrough_62 (by constructor <;> simp [bI, k_4_0, x_pass])
  by_cases k_4_1 : σ.1 14 i = 1
  · refine lv_tableIn (tgt := 63) (off := 59) hx hb dX_passThrough_4 (by rw [k_4_1]; decide) (by rw [k_4_1]; decide) (by rw [k_4_1]; decide) (by decide) ?_
    refine lv_aload_n hx hb dX_passThrough_63 rfl (lv_at hl 0 rfl) ?_
    refine lv_aload_n hx hb dX_passThrough_64 rfl (lv_at hl 1 rfl) ?_
    refine lv_iload_n hx hb dX_passThrough_65 rfl (lv_at hl 2 rfl) ?_
    refine kx_callV1 (σ1 := (x_divide σ i x2).2) (v := .int ((x_divide σ i x2).1)) (n := 2) (As := [.ref (ad (20 + i)), .int x2]) (rest := []) CX hP hS hl.1 (cX_divide l D cA hJ σ i (by omega) x2) wl_262 wl_264 wp_13 wl_1 wl_265 ⟨rfl, by decide +kernel, by decide +kernel, by decide +kernel⟩ (kw_R_ok (by omega) (by omega)) ⟨rfl, rfl⟩ (k := 0) (by omega) rfl rfl rfl rfl rfl (Nat.le_of_ble_eq_true rfl) dX_passThrough_66 (fun H locs hP hS => ?_)
    exact kx_iret (σ' := (x_divide σ i x2).2) CX hP hS dX_passThrough_69 (by constructor <;> simp [bI, k_4_0, k_4_1, x_pass])
  by_cases k_4_2 : σ.1 14 i = 2
  · refine lv_tableIn (tgt := 70) (off := 66) hx hb dX_passThrough_4 (by rw [k_4_2]; decide) (by rw [k_4_2]; decide) (by rw [k_4_2]; decide) (by decide) ?_
    refine lv_aload_n hx hb dX_passThrough_70 rfl (lv_at hl 0 rfl) ?_
    refine lv_aload_n hx hb dX_passThrough_71 rfl (lv_at hl 1 rfl) ?_
    refine lv_iload_n hx hb dX_passThrough_72 rfl (lv_at hl 2 rfl) ?_
    refine kx_callV1 (σ1 := (x_look σ i x2).2) (v := .int ((x_look σ i x2).1)) (n := 2) (As := [.ref (ad (20 + i)), .int x2]) (rest := []) CX hP hS hl.1 (cX_look l D cA hJ σ i (by omega) x2) wl_270 wl_272 wp_15 wl_1 wl_273 ⟨rfl, by decide +kernel, by decide +kernel, by decide +kernel⟩ (kw_R_ok (by omega) (by omega)) ⟨rfl, rfl⟩ (k := 0) (by omega) rfl rfl rfl rfl rfl (Nat.le_of_ble_eq_true rfl) dX_passThrough_73 (fun H locs hP hS => ?_)
    exact kx_iret (σ' := (x_look σ i x2).2) CX hP hS dX_passThrough_76 (by constructor <;> simp [bI, k_4_0, k_4_1, k_4_2, x_pass])
  by_cases k_4_3 : σ.1 14 i = 3
  · refine lv_tableIn (tgt := 77) (off := 73) hx hb dX_passThrough_4 (by rw [k_4_3]; decide) (by rw [k_4_3]; decide) (by rw [k_4_3]; decide) (by decide) ?_
    refine lv_aload_n hx hb dX_passThrough_77 rfl (lv_at hl 0 rfl) ?_
    refine lv_aload_n hx hb dX_passThrough_78 rfl (lv_at hl 1 rfl) ?_
    refine lv_iload_n hx hb dX_passThrough_79 rfl (lv_at hl 2 rfl) ?_
    refine kx_callV1 (σ1 := (x_ask σ i x2).2) (v := .int ((x_ask σ i x2).1)) (n := 2) (As := [.ref (ad (20 + i)), .int x2]) (rest := []) CX hP hS hl.1 (cX_ask l D cA hJ σ i (by omega) x2) wl_276 wl_278 wp_16 wl_1 wl_279 ⟨rfl, by decide +kernel, by decide +kernel, by decide +kernel⟩ (kw_R_ok (by omega) (by omega)) ⟨rfl, rfl⟩ (k := 0) (by omega) rfl rfl rfl rfl rfl (Nat.le_of_ble_eq_true rfl) dX_passThrough_80 (fun H locs hP hS => ?_)
    exact kx_iret (σ' := (x_ask σ i x2).2) CX hP hS dX_passThrough_83 (by constructor <;> simp [bI, k_4_0, k_4_1, k_4_2, k_4_3, x_pass])
  by_cases k_4_4 : σ.1 14 i = 4
  · refine lv_tableIn (tgt := 84) (off := 80) hx hb dX_passThrough_4 (by rw [k_4_4]; decide) (by rw [k_4_4]; decide) (by rw [k_4_4]; decide) (by decide) ?_
    refine lv_aload_n hx hb dX_passThrough_84 rfl (lv_at hl 0 rfl) ?_
    refine lv_aload_n hx hb dX_passThrough_85 rfl (lv_at hl 1 rfl) ?_
    refine lv_iconst (v := 5) hx hb dX_passThrough_86 (by decide) ?_
    refine lv_iconst (v := (-1)) hx hb dX_passThrough_87 (by decide) ?_
    refine lv_iload_n hx hb dX_passThrough_88 rfl (lv_at hl 2 rfl) ?_
    refine kx_callV1 (σ1 := x_faulted σ i 5 (-1)) (v := .int x2) (n := 4) (As := [.ref (ad (20 + i)), .int 5, .int (-1), .int x2]) (rest := []) CX hP hS hl.1 (cX_faulted l D cA hJ σ i (by omega) 5 (-1) x2) wl_266 wl_268 wp_14 wl_1 wl_269 ⟨rfl, by decide +kernel, by decide +kernel, by decide +kernel⟩ (kw_R_ok (by omega) (by omega)) ⟨rfl, rfl⟩ (k := 0) (by omega) rfl rfl rfl rfl rfl (Nat.le_of_ble_eq_true rfl) dX_passThrough_89 (fun H locs hP hS => ?_)
    exact kx_iret (σ' := x_faulted σ i 5 (-1)) CX hP hS dX_passThrough_92 (by constructor <;> simp [bI, k_4_0, k_4_1, k_4_2, k_4_3, k_4_4, x_pass])
  by_cases k_4_5 : σ.1 14 i = 5
  · refine lv_tableIn (tgt := 93) (off := 89) hx hb dX_passThrough_4 (by rw [k_4_5]; decide) (by rw [k_4_5]; decide) (by rw [k_4_5]; decide) (by decide) ?_
    refine lv_aload_n hx hb dX_passThrough_93 rfl (lv_at hl 0 rfl) ?_
    refine lv_aload_n hx hb dX_passThrough_94 rfl (lv_at hl 1 rfl) ?_
    refine lv_iload_n hx hb dX_passThrough_95 rfl (lv_at hl 2 rfl) ?_
    refine lv_iload_n hx hb dX_passThrough_96 rfl (lv_at hl 3 rfl) ?_
    refine kx_callV1 (σ1 := (x_nest r σ i x2).2) (v := .int ((x_nest r σ i x2).1)) (n := 3) (As := [.ref (ad (20 + i)), .int x2, .int (nI d)]) (rest := []) CX hP hS hl.1 (hN σ i x2 hi hok) wl_280 wl_282 wp_17 wl_1 wl_283 ⟨rfl, by decide +kernel, by decide +kernel, by decide +kernel⟩ (kw_R_ok (by omega) (by omega)) ⟨rfl, rfl⟩ (k := 0) (by omega) rfl rfl rfl rfl rfl (Nat.le_of_ble_eq_true rfl) dX_passThrough_97 (fun H locs hP hS => ?_)
    exact kx_iret (σ' := (x_nest r σ i x2).2) CX hP hS dX_passThrough_100 (by constructor <;> simp [bI, k_4_0, k_4_1, k_4_2, k_4_3, k_4_4, k_4_5, x_pass])
  by_cases k_4_6 : σ.1 14 i = 6
  · refine lv_tableIn (tgt := 101) (off := 97) hx hb dX_passThrough_4 (by rw [k_4_6]; decide) (by rw [k_4_6]; decide) (by rw [k_4_6]; decide) (by decide) ?_
    refine lv_iload_n hx hb dX_passThrough_101 rfl (lv_at hl 2 rfl) ?_
    refine lv_aload_n hx hb dX_passThrough_102 rfl (lv_at hl 1 rfl) ?_
    refine xE_get CX hP (by omega) 5 (by omega) wl_87 rfl dX_passThrough_103 ?_
    refine lv_icmp_ge (tgt := 113) hx hb dX_passThrough_106 (by decide) (fun c_106 => ?_) (fun c_106 => ?_)
    · skip
      refine lv_aload_n hx hb dX_passThrough_113 rfl (lv_at hl 0 rfl) ?_
      refine lv_aload_n hx hb dX_passThrough_114 rfl (lv_at hl 1 rfl) ?_
      refine lv_bipush (v := 6) hx hb dX_passThrough_115 (by decide) ?_
      refine lv_iconst (v := (-1)) hx hb dX_passThrough_117 (by decide) ?_
      refine lv_iload_n hx hb dX_passThrough_118 rfl (lv_at hl 2 rfl) ?_
      refine kx_callV1 (σ1 := x_faulted σ i 6 (-1)) (v := .int x2) (n := 4) (As := [.ref (ad (20 + i)), .int 6, .int (-1), .int x2]) (rest := []) CX hP hS hl.1 (cX_faulted l D cA hJ σ i (by omega) 6 (-1) x2) wl_266 wl_268 wp_14 wl_1 wl_269 ⟨rfl, by decide +kernel, by decide +kernel, by decide +kernel⟩ (kw_R_ok (by omega) (by omega)) ⟨rfl, rfl⟩ (k := 0) (by omega) rfl rfl rfl rfl rfl (Nat.le_of_ble_eq_true rfl) dX_passThrough_119 (fun H locs hP hS => ?_)
      exact kx_iret (σ' := x_faulted σ i 6 (-1)) CX hP hS dX_passThrough_122 (by constructor <;> simp [bI, k_4_0, k_4_1, k_4_2, k_4_3, k_4_4, k_4_5, k_4_6, c_106, x_pass])
    · skip
      refine lv_iload_n hx hb dX_passThrough_109 rfl (lv_at hl 2 rfl) ?_
      refine lv_goto (tgt := 122) hx hb dX_passThrough_110 (by decide) ?_
      exact kx_iret (σ' := σ) CX hP hS dX_passThrough_122 (by constructor <;> simp [bI, k_4_0, k_4_1, k_4_2, k_4_3, k_4_4, k_4_5, k_4_6, c_106, x_pass])
  by_cases k_4_7 : σ.1 14 i = 7
  · refine lv_tableIn (tgt := 123) (off := 119) hx hb dX_passThrough_4 (by rw [k_4_7]; decide) (by rw [k_4_7]; decide) (by rw [k_4_7]; decide) (by decide) ?_
    refine lv_iload_n hx hb dX_passThrough_123 rfl (lv_at hl 2 rfl) ?_
    refine lv_aload_n hx hb dX_passThrough_124 rfl (lv_at hl 1 rfl) ?_
    refine xE_get CX hP (by omega) 8 (by omega) wl_91 rfl dX_passThrough_125 ?_
    refine lv_iadd hx hb dX_passThrough_128 ?_
    exact kx_iret (σ' := σ) CX hP hS dX_passThrough_129 (by constructor <;> simp [bI, k_4_0, k_4_1, k_4_2, k_4_3, k_4_4, k_4_5, k_4_6, k_4_7, x_pass])
  by_cases k_4_8 : σ.1 14 i = 8
  · refine lv_tableIn (tgt := 130) (off := 126) hx hb dX_passThrough_4 (by rw [k_4_8]; decide) (by rw [k_4_8]; decide) (by rw [k_4_8]; decide) (by decide) ?_
    refine lv_aload_n hx hb dX_passThrough_130 rfl (lv_at hl 0 rfl) ?_
    refine lv_aload_n hx hb dX_passThrough_131 rfl (lv_at hl 1 rfl) ?_
    refine lv_iload_n hx hb dX_passThrough_132 rfl (lv_at hl 2 rfl) ?_
    refine kx_callV1 (σ1 := (x_bracket σ i x2).2) (v := .int ((x_bracket σ i x2).1)) (n := 2) (As := [.ref (ad (20 + i)), .int x2]) (rest := []) CX hP hS hl.1 (cX_bracket l D cA hJ σ i (by omega) x2) wl_284 wl_286 wp_18 wl_1 wl_287 ⟨rfl, by decide +kernel, by decide +kernel, by decide +kernel⟩ (kw_R_ok (by omega) (by omega)) ⟨rfl, rfl⟩ (k := 0) (by omega) rfl rfl rfl rfl rfl (Nat.le_of_ble_eq_true rfl) dX_passThrough_133 (fun H locs hP hS => ?_)
    exact kx_iret (σ' := (x_bracket σ i x2).2) CX hP hS dX_passThrough_136 (by constructor <;> simp [bI, k_4_0, k_4_1, k_4_2, k_4_3, k_4_4, k_4_5, k_4_6, k_4_7, k_4_8, x_pass])
  refine lv_tableOut (tgt := 137) hx hb dX_passThrough_4 (kx_sw8 k_4_0 k_4_1 k_4_2 k_4_3 k_4_4 k_4_5 k_4_6 k_4_7 k_4_8) (by decide) ?_
  refine lv_iload_n hx hb dX_passThrough_137 rfl (lv_at hl 2 rfl) ?_
  exact kx_iret (σ' := σ) CX hP hS dX_passThrough_138 (by constructor <;> simp [bI, k_4_0, k_4_1, k_4_2, k_4_3, k_4_4, k_4_5, k_4_6, k_4_7, k_4_8, x_pass])
set_option maxRecDepth 100000 in
set_option maxHeartbeats 800000 in
theorem cX_callPoint_s (l : Launch) (D : va_G) (cA : Nat → ClassId) {ad : Nat → Nat} (hJ : kw_J 36 ad) (r d : Nat) (hPs : ∀ (σ : XS) (i : Nat) (x2 : Int32), i < 16 → x_ok σ → kx_Met l yX_passThrough (.code yX_passThrough bX_passThrough 4 (Option.some .int) :: kw_T) (kw_R (3 * r + 3)) D (kx_tys cA) 36 ad (wX cA ad) σ [.ref (ad 0), .ref (ad (20 + i)), .int x2, .int (nI d)] (fun r9 u => r9 = some (.int (x_pass (x_nest r) σ i x2).1) ∧ (x_pass (x_nest r) σ i x2).2 = u)) (σ : XS) (x1 x2 : Int32) (hok : x_ok σ) : kx_Met l yX_callPoint (.code yX_callPoint bX_callPoint 9 (Option.some .int) :: kw_T) (kw_R (3 * r + 4)) D (kx_tys cA) 36 ad (wX cA ad) σ [.ref (ad 0), .int x1, .int x2, .int (nI d)] (fun r9 u9 => r9 = some (.int ((x_callP r σ x1 x2).1)) ∧ (x_callP r σ x1 x2).2 = u9) := by
  refine kx_of hJ (by decide +kernel) (Nat.le_of_ble_eq_true rfl) ?_
  intro p e s m args below meth c CX ls hl hP hS
  obtain ⟨hx, hb, hr, hml, hown, hts, hlk, hK, hJ1, hZ⟩ := id CX
  have hl : lv_has ls 9 [(0, .ref (ad 0)), (1, .int x1), (2, .int x2), (3, .int (nI d))] := hl
  refine lv_iload_n hx hb dX_callPoint_0 rfl (lv_at hl 2 rfl) ?_
  refine lv_istore (lv' := [(4, .int x2), (0, .ref (ad 0)), (1, .int x1), (2, .int x2), (3, .int (nI d))]) hx hb dX_callPoint_1 hl (by decide) rfl (fun ls hl => ?_)
  refine lv_aload_n hx hb dX_callPoint_3 rfl (lv_at hl 1 rfl) ?_
  refine xX_get CX hP 2 (by omega) wl_113 rfl dX_callPoint_4 ?_
  refine lv_astore (lv' := [(5, .ref (ad 3)), (4, .int x2), (0, .ref (ad 0)), (1, .int x1), (2, .int x2), (3, .int (nI d))]) hx hb dX_callPoint_7 hl (by decide) rfl (fun ls hl => ?_)
  refine lv_aload hx hb dX_callPoint_9 (lv_at hl 0 rfl) ?_
  refine kx_alen (v := 16) CX hP (k := 3) (t0 := 4) (by omega) rfl rfl rfl rfl dX_callPoint_11 ?_
  refine lv_istore (lv' := [(6, .int 16), (5, .ref (ad 3)), (4, .int x2), (0, .ref (ad 0)), (1, .int x1), (2, .int x2), (3, .int (nI d))]) hx hb dX_callPoint_12 hl (by decide) rfl (fun ls hl => ?_)
  refine lv_iconst (v := 0) hx hb dX_callPoint_14 (by decide) ?_
  refine lv_istore (lv' := [(7, .int 0), (6, .int 16), (5, .ref (ad 3)), (4, .int x2), (0, .ref (ad 0)), (1, .int x1), (2, .int x2), (3, .int (nI d))]) hx hb dX_callPoint_15 hl (by decide) rfl (fun ls hl => ?_)
  have loop_17 : ∀ (fu : Nat) (j : Nat) (v : XS) (y : Int32), (j ≤ 16) → (x_ok v) → (x_callP r σ x1 x2 = x_callL (x_pass (x_nest r)) x1 (16 - j) j v y) → 16 - j < fu → ∀ (H : Heap) (locs : List Loc), va_P D classes (kw_W 36 ad (wX cA ad v)) H → va_S (kw_A 36 ad s.heap.size) s.heap H locs → ∀ (ls : Array Slot), lv_has ls 9 [(0, .ref (ad 0)), (1, .int x1), (3, .int (nI d)), (4, .int y), (5, .ref (ad 3)), (6, .int 16), (7, .int (nI j))] → W p l e (kw_R (3 * r + 4)) s m args below meth c H locs 0 0 (kx_Q below D 36 ad (wX cA ad) (fun r9 u9 => r9 = some (.int ((x_callP r σ x1 x2).1)) ∧ (x_callP r σ x1 x2).2 = u9) args s) (F0 m 17 ls []) := by
    intro fu17
    induction fu17 with
    | zero => intro j v y hj hokv hq hm17; exact absurd hm17 (Nat.not_lt_zero _)
    | succ fu17 ih17 =>
      intro j v y hj hokv hq hm17 H locs hP hS ls hl
      refine lv_iload hx hb dX_callPoint_17 (lv_at hl 6 rfl) ?_
      refine lv_iload hx hb dX_callPoint_19 (lv_at hl 5 rfl) ?_
      refine lv_icmp_ge (tgt := 69) hx hb dX_callPoint_21 (by decide) (fun c_21 => ?_) (fun c_21 => ?_)
      · have c_21i := c_21
        have c_21 : 16 ≤ j := (nI_le' (a := 16) (b := j) (by omega) (by omega)).mp c_21
        refine lv_iload hx hb dX_callPoint_69 (lv_at hl 3 rfl) ?_
        exact kx_iret (σ' := v) CX hP hS dX_callPoint_71 (by rw [hq, show 16 - j = 0 by omega]; exact ⟨rfl, rfl⟩)
      · have c_21i := c_21
        have c_21 : ¬ (16 ≤ j) := fun hq9 => c_21 ((nI_le' (a := 16) (b := j) (by omega) (by omega)).mpr hq9)
        refine lv_aload hx hb dX_callPoint_24 (lv_at hl 4 rfl) ?_
        refine lv_iload hx hb dX_callPoint_26 (lv_at hl 6 rfl) ?_
        refine xA_O CX hP j (rfl) (by omega) dX_callPoint_28 ?_
        refine lv_astore (lv' := [(8, .ref (ad (20 + (v.2 j)))), (0, .ref (ad 0)), (1, .int x1), (3, .int (nI d)), (4, .int y), (5, .ref (ad 3)), (6, .int 16), (7, .int (nI j))]) hx hb dX_callPoint_29 hl (by decide) rfl (fun ls hl => ?_)
        refine lv_aload_n hx hb dX_callPoint_31 rfl (lv_at hl 1 rfl) ?_
        refine lv_aload hx hb dX_callPoint_32 (lv_at hl 0 rfl) ?_
        refine lv_iload_n hx hb dX_callPoint_34 rfl (lv_at hl 2 rfl) ?_
        refine kx_callV1 (σ1 := v) (v := .int (bI (liveAtX v ((v.2 j)) x1 = true))) (n := 2) (As := [.ref (ad (20 + (v.2 j))), .int x1]) (rest := []) CX hP hS hl.1 (cX_isLiveAt l D cA hJ v ((v.2 j)) (hokv.1 _ (by omega)) x1 hokv.2) wl_246 wl_248 wp_10 wl_1 wl_249 ⟨rfl, by decide +kernel, by decide +kernel, by decide +kernel⟩ (kw_R_ok (by omega) (by omega)) ⟨rfl, rfl⟩ (k := 0) (by omega) rfl rfl rfl rfl rfl (Nat.le_of_ble_eq_true rfl) dX_callPoint_35 (fun H locs hP hS => ?_)
        refine lv_if_eq (tgt := 63) hx hb dX_callPoint_38 (by decide) (fun c_38 => ?_) (fun c_38 => ?_)
        · have c_38 := bI_eq0.mp c_38
          refine lv_iinc (v := nI (j + 1)) (lv' := [(7, .int (nI (j + 1))), (8, .ref (ad (20 + (v.2 j)))), (0, .ref (ad 0)), (1, .int x1), (3, .int (nI d)), (4, .int y), (5, .ref (ad 3)), (6, .int 16)]) hx hb dX_callPoint_63 hl (k := 7) rfl (nI_i1 j) (by decide) rfl (fun ls hl => ?_)
          refine lv_goto (tgt := 17) hx hb dX_callPoint_66 (by decide) ?_
          exact ih17 (j + 1) v y (by omega) hokv (by rw [hq, show 16 - j = 16 - (j + 1) + 1 by omega]; simp [x_callL, c_38]) (by omega) _ _ hP hS ls (lv_sub hl [2, 3, 4, 5, 6, 7, 0] rfl)
        · have c_38 := bI_ne0.mp c_38
          refine lv_aload hx hb dX_callPoint_41 (lv_at hl 0 rfl) ?_
          refine lv_dup hx hb dX_callPoint_43 rfl ?_
          refine xE_get CX hP (hokv.1 _ (by omega)) 8 (by omega) wl_91 rfl dX_callPoint_44 ?_
          refine lv_iconst (v := 1) hx hb dX_callPoint_47 (by decide) ?_
          refine lv_iadd hx hb dX_callPoint_48 ?_
          refine xE_put CX hP hS (hokv.1 _ (by omega)) 8 (by omega) (by omega) (by omega) wl_91 ⟨rfl, rfl⟩ dX_callPoint_49 (fun H locs hP hS => ?_)
          refine lv_aload_n hx hb dX_callPoint_52 rfl (lv_at hl 1 rfl) ?_
          refine lv_aload hx hb dX_callPoint_53 (lv_at hl 0 rfl) ?_
          refine lv_iload hx hb dX_callPoint_55 (lv_at hl 4 rfl) ?_
          refine lv_iload_n hx hb dX_callPoint_57 rfl (lv_at hl 3 rfl) ?_
          refine kx_callV1 (σ1 := (x_pass (x_nest r) (xs v 18 ((v.2 j)) ((v.1 18 ((v.2 j))) + 1)) ((v.2 j)) y).2) (v := .int ((x_pass (x_nest r) (xs v 18 ((v.2 j)) ((v.1 18 ((v.2 j))) + 1)) ((v.2 j)) y).1)) (n := 3) (As := [.ref (ad (20 + (v.2 j))), .int y, .int (nI d)]) (rest := []) CX hP hS hl.1 (hPs (xs v 18 ((v.2 j)) ((v.1 18 ((v.2 j))) + 1)) (v.2 j) y (hokv.1 _ (by omega)) (x_ok_k hokv (x_keep_x _ _ _ (Or.inr rfl)))) wl_258 wl_260 wp_12 wl_1 wl_261 ⟨rfl, by decide +kernel, by decide +kernel, by decide +kernel⟩ (kw_R_ok (by omega) (by omega)) ⟨rfl, rfl⟩ (k := 0) (by omega) rfl rfl rfl rfl rfl (Nat.le_of_ble_eq_true rfl) dX_callPoint_58 (fun H locs hP hS => ?_)
          refine lv_istore (lv' := [(4, .int ((x_pass (x_nest r) (xs v 18 ((v.2 j)) ((v.1 18 ((v.2 j))) + 1)) ((v.2 j)) y).1)), (8, .ref (ad (20 + (v.2 j)))), (0, .ref (ad 0)), (1, .int x1), (3, .int (nI d)), (5, .ref (ad 3)), (6, .int 16), (7, .int (nI j))]) hx hb dX_callPoint_61 hl (by decide) rfl (fun ls hl => ?_)
          refine lv_iinc (v := nI (j + 1)) (lv' := [(7, .int (nI (j + 1))), (4, .int ((x_pass (x_nest r) (xs v 18 ((v.2 j)) ((v.1 18 ((v.2 j))) + 1)) ((v.2 j)) y).1)), (8, .ref (ad (20 + (v.2 j)))), (0, .ref (ad 0)), (1, .int x1), (3, .int (nI d)), (5, .ref (ad 3)), (6, .int 16)]) hx hb dX_callPoint_63 hl (k := 7) rfl (nI_i1 j) (by decide) rfl (fun ls hl => ?_)
          refine lv_goto (tgt := 17) hx hb dX_callPoint_66 (by decide) ?_
          exact ih17 (j + 1) ((x_pass (x_nest r) (xs v 18 ((v.2 j)) ((v.1 18 ((v.2 j))) + 1)) ((v.2 j)) y).2) ((x_pass (x_nest r) (xs v 18 ((v.2 j)) ((v.1 18 ((v.2 j))) + 1)) ((v.2 j)) y).1) (by omega) (x_ok_k hokv (x_keep_t (x_keep_x _ _ _ (Or.inr rfl)) (x_keep_pass (x_keep_nest r) _ _ _))) (by rw [hq, show 16 - j = 16 - (j + 1) + 1 by omega]; simp [x_callL, c_38]) (by omega) _ _ hP hS ls (lv_sub hl [3, 4, 5, 1, 6, 7, 0] rfl)
  exact loop_17 ((16 - 0) + 1) 0 σ x2 (by omega) hok (x_callP_eq _ _ _ _) (Nat.lt_succ_self _) _ _ hP hS ls (lv_sub hl [4, 5, 7, 3, 2, 1, 0] rfl)
theorem cX_callPoint (l : Launch) (D : va_G) (cA : Nat → ClassId) {ad : Nat → Nat} (hJ : kw_J 36 ad) : ∀ (r d : Nat), d + r = 3 → ∀ (σ : XS) (x1 x2 : Int32), x_ok σ → kx_Met l yX_callPoint (.code yX_callPoint bX_callPoint 9 (Option.some .int) :: kw_T) (kw_R (3 * r + 4)) D (kx_tys cA) 36 ad (wX cA ad) σ [.ref (ad 0), .int x1, .int x2, .int (nI d)] (fun r9 u => r9 = some (.int (x_callP r σ x1 x2).1) ∧ (x_callP r σ x1 x2).2 = u) := by
  intro r
  induction r with
  | zero =>
    intro d hd
    obtain rfl : d = 3 := by omega
    exact cX_callPoint_s l D cA hJ 0 3 (fun σ i x2 hi hok => cX_passThrough l D cA hJ 0 3 (fun σ i x2 hi hok => cX_nest_0 l D cA hJ σ i hi x2) σ i hi x2 hok)
  | succ r ih =>
    intro d hd
    exact cX_callPoint_s l D cA hJ (r + 1) d (fun σ i x2 hi hok => cX_passThrough l D cA hJ (r + 1) d (fun σ i x2 hi hok => cX_nest_s l D cA hJ r d (by omega) (ih (d + 1) (by omega)) σ i hi x2 hok) σ i hi x2 hok)
set_option maxRecDepth 100000 in
set_option maxHeartbeats 800000 in
theorem cX_call (l : Launch) (D : va_G) (cA : Nat → ClassId) {ad : Nat → Nat} (hJ : kw_J 36 ad) (σ : XS) (x1 x2 : Int32) (hok : x_ok σ) : kx_Met l yX_call (.code yX_call bX_call 3 (Option.some .int) :: kw_T) (kw_R 14) D (kx_tys cA) 36 ad (wX cA ad) σ [.ref (ad 0), .int x1, .int x2] (fun r9 u9 => r9 = some (.int ((x_call σ x1 x2).1)) ∧ (x_call σ x1 x2).2 = u9) := by
  refine kx_of hJ (by decide +kernel) (Nat.le_of_ble_eq_true rfl) ?_
  intro p e s m args below meth c CX ls hl hP hS
  obtain ⟨hx, hb, hr, hml, hown, hts, hlk, hK, hJ1, hZ⟩ := id CX
  have hl : lv_has ls 3 [(0, .ref (ad 0)), (1, .int x1), (2, .int x2)] := hl
  refine lv_iload_n hx hb dX_call_0 rfl (lv_at hl 1 rfl) ?_
  refine kx_callS1 (σ1 := σ) (v := .int (bI (in3 x1 = true))) (n := 1) (As := [.int x1]) (rest := []) CX hP hS hl.1 (cX_isPoint l D cA hJ σ x1) wl_184 wl_185 wl_1 wl_186 ⟨by decide +kernel, by decide +kernel, by decide +kernel⟩ (kw_R_ok (by omega) (by omega)) ⟨rfl, rfl⟩ rfl rfl (Nat.le_of_ble_eq_true rfl) dX_call_1 (fun H locs hP hS => ?_)
  refine lv_if_eq (tgt := 17) hx hb dX_call_4 (by decide) (fun c_4 => ?_) (fun c_4 => ?_)
  · have c_4 := bI_eq0.mp c_4
    refine lv_iconst (v := (-1)) hx hb dX_call_17 (by decide) ?_
    exact kx_iret (σ' := σ) CX hP hS dX_call_18 (by constructor <;> simp [bI, c_4, x_call])
  · have c_4 := bI_ne0.mp c_4
    refine lv_aload_n hx hb dX_call_7 rfl (lv_at hl 0 rfl) ?_
    refine lv_iload_n hx hb dX_call_8 rfl (lv_at hl 1 rfl) ?_
    refine lv_iload_n hx hb dX_call_9 rfl (lv_at hl 2 rfl) ?_
    refine lv_iconst (v := 0) hx hb dX_call_10 (by decide) ?_
    refine kx_callV1 (σ1 := (x_callP 3 σ x1 x2).2) (v := .int ((x_callP 3 σ x1 x2).1)) (n := 3) (As := [.int x1, .int x2, .int 0]) (rest := []) CX hP hS hl.1 (cX_callPoint l D cA hJ 3 0 rfl σ x1 x2 hok) wl_242 wl_244 wp_9 wl_1 wl_245 ⟨rfl, by decide +kernel, by decide +kernel, by decide +kernel⟩ (kw_R_ok (by omega) (by omega)) ⟨rfl, rfl⟩ (k := 0) (by omega) rfl rfl rfl rfl rfl (Nat.le_of_ble_eq_true rfl) dX_call_11 (fun H locs hP hS => ?_)
    refine lv_goto (tgt := 18) hx hb dX_call_14 (by decide) ?_
    exact kx_iret (σ' := (x_callP 3 σ x1 x2).2) CX hP hS dX_call_18 (by constructor <;> simp [bI, c_4, x_call])
