def x_activate (σ : XS) (i : Nat) : XS := hnote (xs (xs (xs σ 1 i 2) 6 i (σ.1 28 0)) 28 0 (σ.1 28 0 + 1)) 0 (nI (10 + i))
/-- the walk over the needs of p from the k-th on, n of them; g starts one -/
def x_needL (g : XS → Nat → Int32 × XS) (p : Nat) : Nat → Nat → XS → Int32 × XS
  | 0, _, σ => (0, σ)
  | n + 1, k, σ => if bitb (σ.1 2 p) (nI k) = true then (if (g σ k).1 = 0 then x_needL g p n (k + 1) (g σ k).2 else g σ k)
    else if bitb (σ.1 3 p) (nI k) = true ∧ σ.1 1 k = 1 then x_needL g p n (k + 1) (g σ k).2 else x_needL g p n (k + 1) σ
def x_startP : Nat → XS → Nat → Int32 × XS
  | 0, σ, _ => (0, σ)
  | n + 1, σ, p => if σ.1 1 p = 0 then (-3, σ) else if σ.1 1 p = 2 then (0, σ) else if ¬ σ.1 7 p = 0 then (-4, σ)
    else if (x_needL (x_startP n) p 8 0 (xs σ 7 p 1)).1 = 0 then (0, x_activate (xs (x_needL (x_startP n) p 8 0 (xs σ 7 p 1)).2 7 p 0) p)
    else ((x_needL (x_startP n) p 8 0 (xs σ 7 p 1)).1, xs (x_needL (x_startP n) p 8 0 (xs σ 7 p 1)).2 7 p 0)
/-- how many of the first n hold a 0 -/
def cnt0 (f : Nat → Int32) : Nat → Nat
  | 0 => 0
  | n + 1 => if f n = 0 then cnt0 f n + 1 else cnt0 f n
theorem cnt0_le (f : Nat → Int32) (n : Nat) : cnt0 f n ≤ n := by
  induction n with
  | zero => exact Nat.le_refl _
  | succ n ih => simp only [cnt0]; split <;> omega
theorem cnt0_upd {f : Nat → Int32} {p : Nat} {v : Int32} (hp : f p = 0) (hv : ¬ v = 0) (n : Nat) : cnt0 (upd f p v) n + (if p < n then 1 else 0) = cnt0 f n := by
  induction n with
  | zero => simp [cnt0]
  | succ n ih =>
    simp only [cnt0, upd_at]
    by_cases h : n = p
    · subst h
      have ih' : cnt0 (upd f n v) n = cnt0 f n := by simpa using ih
      simp [hv, hp, ih']
    · simp only [h, if_false]
      have e : (p < n + 1) ↔ p < n := by omega
      simp only [e]
      split <;> omega
theorem hnote_f {σ : XS} {h : Nat} {x : Int32} {f : Nat} (h1 : f ≠ 30 + h) (h2 : f ≠ 40 + h) : (hnote σ h x).1 f = σ.1 f := by
  simp [hnote, xs, upd2_f h1, upd2_f h2]
theorem hnote_2 {σ : XS} {h : Nat} {x : Int32} : (hnote σ h x).2 = σ.2 := rfl
theorem xs_f {σ : XS} {f f' k : Nat} {v : Int32} (h : f' ≠ f) : (xs σ f k v).1 f' = σ.1 f' := upd2_f h
theorem xs_u {σ : XS} {f k : Nat} {v : Int32} : (xs σ f k v).1 f = upd (σ.1 f) k v := upd2_u
/-- starting leaves the flags 'starting' as they were -/
theorem x_needL_7 {g : XS → Nat → Int32 × XS} (hg : ∀ σ k, (g σ k).2.1 7 = σ.1 7) (p : Nat) : ∀ (n k : Nat) (σ : XS), (x_needL g p n k σ).2.1 7 = σ.1 7 := by
  intro n
  induction n with
  | zero => intro k σ; rfl
  | succ n ih =>
    intro k σ
    simp only [x_needL]
    split
    · split
      · rw [ih, hg]
      · rw [hg]
    · split
      · rw [ih, hg]
      · rw [ih]
theorem upd_back {f : Nat → Int32} {p : Nat} {v : Int32} (h : f p = 0) : upd (upd f p v) p 0 = f := by
  funext k
  simp only [upd_at]
  split
  · rename_i e; rw [e, h]
  · rfl
theorem x_startP_7 : ∀ (n : Nat) (σ : XS) (p : Nat), (x_startP n σ p).2.1 7 = σ.1 7 := by
  intro n
  induction n with
  | zero => intro σ p; rfl
  | succ n ih =>
    intro σ p
    simp only [x_startP]
    split
    · rfl
    split
    · rfl
    split
    · rfl
    rename_i h7
    have h7' : σ.1 7 p = 0 := by simpa using h7
    have e := x_needL_7 ih p 8 0 (xs σ 7 p 1)
    have e2 : (xs (x_needL (x_startP n) p 8 0 (xs σ 7 p 1)).2 7 p 0).1 7 = σ.1 7 := by
      rw [xs_u, e, xs_u, upd_back h7']
    split
    · simp only [x_activate]
      rw [hnote_f (by omega) (by omega), xs_f (by omega), xs_f (by omega), xs_f (by omega)]
      exact e2
    · exact e2
theorem cnt0_start {σ : XS} {p n : Nat} (hp : p < 8) (h0 : σ.1 7 p = 0) (h : cnt0 (σ.1 7) 8 ≤ n + 1) : cnt0 ((xs σ 7 p 1).1 7) 8 ≤ n := by
  have e := cnt0_upd (f := σ.1 7) (p := p) (v := 1) h0 (by decide) 8
  rw [if_pos hp] at e
  rw [xs_u]
  omega
def x_start (σ : XS) (x : Int32) : Int32 × XS := if in8 x = true then x_startP 9 σ (pn x) else (-1, σ)
def x_allL (σ : XS) : Nat → XS
  | 0 => σ
  | n + 1 => (x_startP 9 (x_allL σ n) n).2
def x_later (σ : XS) (n : Nat) (o : Option Nat) : Bool := match o with
  | none => true
  | some b => decide (¬ σ.1 6 n ≤ σ.1 6 b)
/-- the last started that needs q, of the first n -/
def x_lastL (σ : XS) (q : Nat) : Nat → Option Nat
  | 0 => none
  | n + 1 => if σ.1 1 n = 2 ∧ σ.1 8 n = 0 ∧ bitb (σ.1 2 n) (nI q) = true ∧ x_later σ n (x_lastL σ q n) = true then some n else x_lastL σ q n
def x_last (σ : XS) (q : Nat) : Option Nat := x_lastL σ q 8
theorem x_lastL_lt {σ : XS} {q n b : Nat} (h : x_lastL σ q n = some b) : b < n ∧ σ.1 1 b = 2 ∧ σ.1 8 b = 0 := by
  induction n with
  | zero => simp [x_lastL] at h
  | succ n ih =>
    simp only [x_lastL] at h
    split at h
    · rename_i hc
      cases h
      exact ⟨by omega, hc.1, hc.2.1⟩
    · have := ih h
      exact ⟨by omega, this.2⟩
/-- what is stopped behind q: fuel n above the number of plugins that are active and not being stopped -/
def x_stopL : Nat → XS → Nat → Int32 → Int32 × XS
  | 0, σ, _, a => (a, σ)
  | n + 1, σ, p, a => match x_last σ p with
    | none => (a, σ)
    | some q => x_stopL n (hnote (xs (xs (x_stopL n (xs σ 8 q 1) q 0).2 8 q 0) 1 q 1) 0 (nI (20 + q))) p (a + ((x_stopL n (xs σ 8 q 1) q 0).1 + 1))
def x_stopP (n : Nat) (σ : XS) (q : Nat) : Int32 × XS := ((x_stopL n (xs σ 8 q 1) q 0).1 + 1, hnote (xs (xs (x_stopL n (xs σ 8 q 1) q 0).2 8 q 0) 1 q 1) 0 (nI (20 + q)))
def x_stop (σ : XS) (x : Int32) : Int32 × XS := if in8 x = true ∧ σ.1 1 (pn x) = 2 then x_stopP 9 σ (pn x) else (-1, σ)
/-- how many of the first n are active and not being stopped -/
def cntA (σ : XS) : Nat → Nat
  | 0 => 0
  | n + 1 => if σ.1 1 n = 2 ∧ σ.1 8 n = 0 then cntA σ n + 1 else cntA σ n
theorem cntA_le (σ : XS) (n : Nat) : cntA σ n ≤ n := by
  induction n with
  | zero => exact Nat.le_refl _
  | succ n ih => simp only [cntA]; split <;> omega
theorem cntA_lt {σ : XS} {p : Nat} (h : ¬ (σ.1 1 p = 2 ∧ σ.1 8 p = 0)) : ∀ n, p < n → cntA σ n < n := by
  intro n
  induction n with
  | zero => intro hp; omega
  | succ n ih =>
    intro hp
    simp only [cntA]
    have := cntA_le σ n
    by_cases e : p = n
    · subst e
      rw [if_neg h]
      omega
    · have := ih (by omega)
      split <;> omega
theorem cntA_mono {σ σ' : XS} (h : ∀ k, (σ'.1 1 k = 2 ∧ σ'.1 8 k = 0) → (σ.1 1 k = 2 ∧ σ.1 8 k = 0)) (n : Nat) : cntA σ' n ≤ cntA σ n := by
  induction n with
  | zero => exact Nat.le_refl _
  | succ n ih =>
    simp only [cntA]
    split
    · rename_i q
      rw [if_pos (h n q)]
      omega
    · split <;> omega
theorem cntA_mono_lt {σ σ' : XS} (h : ∀ k, (σ'.1 1 k = 2 ∧ σ'.1 8 k = 0) → (σ.1 1 k = 2 ∧ σ.1 8 k = 0)) {p : Nat} (h1 : σ.1 1 p = 2 ∧ σ.1 8 p = 0) (h2 : ¬ (σ'.1 1 p = 2 ∧ σ'.1 8 p = 0)) : ∀ n, p < n → cntA σ' n < cntA σ n := by
  intro n
  induction n with
  | zero => intro hp; omega
  | succ n ih =>
    intro hp
    simp only [cntA]
    by_cases e : p = n
    · subst e
      rw [if_neg h2, if_pos h1]
      have := cntA_mono h p
      omega
    · have := ih (by omega)
      split
      · rename_i q
        rw [if_pos (h n q)]
        omega
      · split <;> omega
theorem x_stopP_eq {n : Nat} {σ : XS} {q : Nat} : x_stopP n σ q = ((x_stopL n (xs σ 8 q 1) q 0).1 + 1, hnote (xs (xs (x_stopL n (xs σ 8 q 1) q 0).2 8 q 0) 1 q 1) 0 (nI (20 + q))) := rfl
theorem x_stopL_s {n : Nat} {σ : XS} {p : Nat} {a : Int32} {q : Nat} (h : x_last σ p = some q) : x_stopL (n + 1) σ p a = x_stopL n (x_stopP n σ q).2 p (a + (x_stopP n σ q).1) := by
  simp only [x_stopL, h, x_stopP]
theorem x_stopL_n {n : Nat} {σ : XS} {p : Nat} {a : Int32} (h : x_last σ p = none) : x_stopL (n + 1) σ p a = (a, σ) := by
  simp only [x_stopL, h]
theorem x_stopL_keep : ∀ (n : Nat) (σ : XS) (p : Nat) (a : Int32), (∀ k, (x_stopL n σ p a).2.1 8 k = σ.1 8 k) ∧ ∀ k, (x_stopL n σ p a).2.1 1 k = 2 → σ.1 1 k = 2 := by
  intro n
  induction n with
  | zero => intro σ p a; exact ⟨fun _ => rfl, fun _ h => h⟩
  | succ n ih =>
    intro σ p a
    cases h : x_last σ p with
    | none => rw [x_stopL_n h]; exact ⟨fun _ => rfl, fun _ h => h⟩
    | some q =>
      rw [x_stopL_s h]
      obtain ⟨g1, g2⟩ := ih (x_stopP n σ q).2 p (a + (x_stopP n σ q).1)
      obtain ⟨e1, e2⟩ := ih (xs σ 8 q 1) q 0
      have hq := x_lastL_lt h
      refine ⟨fun k => ?_, fun k hk => ?_⟩
      · rw [g1]
        simp only [x_stopP]
        rw [hnote_f (by omega) (by omega), xs_f (by omega), xs_u, upd_at]
        split
        · rename_i e; rw [e, hq.2.2]
        · rename_i e
          rw [e1, xs_u, upd_at, if_neg e]
      · have hk2 := g2 k hk
        simp only [x_stopP] at hk2
        rw [hnote_f (by omega) (by omega), xs_u, upd_at] at hk2
        split at hk2
        · cases hk2
        · rw [xs_f (by omega)] at hk2
          have := e2 k hk2
          rwa [xs_f (by omega)] at this
theorem x_stopP_keep {n : Nat} {σ : XS} {q : Nat} (hq : σ.1 8 q = 0) : (∀ k, (x_stopP n σ q).2.1 8 k = σ.1 8 k) ∧ (∀ k, (x_stopP n σ q).2.1 1 k = 2 → σ.1 1 k = 2) ∧ (x_stopP n σ q).2.1 1 q = 1 := by
  obtain ⟨e1, e2⟩ := x_stopL_keep n (xs σ 8 q 1) q 0
  refine ⟨fun k => ?_, fun k hk => ?_, ?_⟩
  · simp only [x_stopP]
    rw [hnote_f (by omega) (by omega), xs_f (by omega), xs_u, upd_at]
    split
    · rename_i e; rw [e, hq]
    · rename_i e
      rw [e1, xs_u, upd_at, if_neg e]
  · simp only [x_stopP] at hk
    rw [hnote_f (by omega) (by omega), xs_u, upd_at] at hk
    split at hk
    · cases hk
    · rw [xs_f (by omega)] at hk
      have := e2 k hk
      rwa [xs_f (by omega)] at this
  · simp only [x_stopP]
    rw [hnote_f (by omega) (by omega), xs_u, upd_at, if_pos rfl]
theorem cntA_stop {σ : XS} {q n : Nat} (hq : q < 8) (h1 : σ.1 1 q = 2 ∧ σ.1 8 q = 0) : cntA (x_stopP n σ q).2 8 < cntA σ 8 := by
  obtain ⟨e1, e2, e3⟩ := x_stopP_keep (n := n) h1.2
  refine cntA_mono_lt (fun k hk => ⟨e2 k hk.1, by rw [← e1]; exact hk.2⟩) h1 (fun h => ?_) 8 hq
  rw [e3] at h
  exact absurd h.1 (by decide)
theorem cntA_flag {σ : XS} {q : Nat} (hq : q < 8) (h1 : σ.1 1 q = 2 ∧ σ.1 8 q = 0) : cntA (xs σ 8 q 1) 8 < cntA σ 8 := by
  refine cntA_mono_lt (fun k hk => ?_) h1 (fun h => ?_) 8 hq
  · rw [xs_f (by omega), xs_u, upd_at] at hk
    split at hk
    · exact absurd hk.2 (by decide)
    · exact hk
  · rw [xs_u, upd_at, if_pos rfl] at h
    exact absurd h.2 (by decide)
theorem x_startP_s {n : Nat} {σ : XS} {p : Nat} : x_startP (n + 1) σ p = if σ.1 1 p = 0 then (-3, σ) else if σ.1 1 p = 2 then (0, σ) else if ¬ σ.1 7 p = 0 then (-4, σ) else if (x_needL (x_startP n) p 8 0 (xs σ 7 p 1)).1 = 0 then (0, x_activate (xs (x_needL (x_startP n) p 8 0 (xs σ 7 p 1)).2 7 p 0) p) else ((x_needL (x_startP n) p 8 0 (xs σ 7 p 1)).1, xs (x_needL (x_startP n) p 8 0 (xs σ 7 p 1)).2 7 p 0) := rfl
set_option maxRecDepth 100000 in
set_option maxHeartbeats 800000 in
theorem cX_activate (l : Launch) (D : va_G) (cA : Nat → ClassId) {ad : Nat → Nat} (hJ : kw_J 36 ad) (σ : XS) (i : Nat) (hi : i < 8) : kx_Met l yX_activate (.code yX_activate bX_activate 2 none :: kw_T) (kw_R 1) D (kx_tys cA) 36 ad (wX cA ad) σ [.ref (ad 0), .ref (ad (12 + i))] (fun r9 u9 => r9 = none ∧ x_activate σ i = u9) := by
  refine kx_of hJ (by decide +kernel) (Nat.le_of_ble_eq_true rfl) ?_
  intro p e s m args below meth c CX ls hl hP hS
  obtain ⟨hx, hb, hr, hml, hown, hts, hlk, hK, hJ1, hZ⟩ := id CX
  have hl : lv_has ls 2 [(0, .ref (ad 0)), (1, .ref (ad (12 + i)))] := hl
  refine lv_aload_n hx hb dX_activate_0 rfl (lv_at hl 1 rfl) ?_
  refine lv_iconst (v := 2) hx hb dX_activate_1 (by decide) ?_
  refine xP_put CX hP hS (by omega) 1 (by omega) (by omega) wl_44 ⟨rfl, rfl⟩ dX_activate_2 (fun H locs hP hS => ?_)
  refine lv_aload_n hx hb dX_activate_5 rfl (lv_at hl 1 rfl) ?_
  refine lv_aload_n hx hb dX_activate_6 rfl (lv_at hl 0 rfl) ?_
  refine xX_get CX hP 8 (by omega) wl_119 rfl dX_activate_7 ?_
  refine kx_topi (v' := σ.1 28 0) rfl ?_
  refine xP_put CX hP hS (by omega) 6 (by omega) (by omega) wl_53 ⟨rfl, rfl⟩ dX_activate_10 (fun H locs hP hS => ?_)
  refine lv_aload_n hx hb dX_activate_13 rfl (lv_at hl 0 rfl) ?_
  refine lv_dup hx hb dX_activate_14 rfl ?_
  refine xX_get CX hP 8 (by omega) wl_119 rfl dX_activate_15 ?_
  refine kx_topi (v' := σ.1 28 0) rfl ?_
  refine lv_iconst (v := 1) hx hb dX_activate_18 (by decide) ?_
  refine lv_iadd hx hb dX_activate_19 ?_
  refine xX_put CX hP hS 8 (by omega) wl_119 dX_activate_20 (fun H locs hP hS => ?_)
  refine lv_aload_n hx hb dX_activate_23 rfl (lv_at hl 0 rfl) ?_
  refine xX_get CX hP 3 (by omega) wl_114 rfl dX_activate_24 ?_
  refine lv_bipush (v := 10) hx hb dX_activate_27 (by decide) ?_
  refine lv_aload_n hx hb dX_activate_29 rfl (lv_at hl 1 rfl) ?_
  refine xP_get CX hP (by omega) 0 (by omega) wl_43 rfl dX_activate_30 ?_
  refine lv_iadd hx hb dX_activate_33 ?_
  refine kx_topi (v' := nI (10 + i)) (nI_add 10 i) ?_
  refine kx_callV0 (σ1 := hnote (xs (xs (xs σ 1 i 2) 6 i (σ.1 28 0)) 28 0 ((σ.1 28 0) + 1)) 0 (nI (10 + i))) (n := 1) (As := [.int (nI (10 + i))]) (rest := []) CX hP hS hl.1 (cH_note l D cA hJ (xs (xs (xs σ 1 i 2) 6 i (σ.1 28 0)) 28 0 ((σ.1 28 0) + 1)) 0 (by omega) (nI (10 + i))) wl_210 wl_211 wl_212 wl_2 wl_213 ⟨rfl, by decide +kernel, by decide +kernel, by decide +kernel⟩ (kw_R_ok (by omega) (by omega)) ⟨rfl, rfl⟩ (k := 4 + 0) (by omega) (wX_aH (by omega)) rfl rfl rfl rfl (Nat.le_of_ble_eq_true rfl) dX_activate_34 (fun H locs hP hS => ?_)
  exact kx_vret (σ' := hnote (xs (xs (xs σ 1 i 2) 6 i (σ.1 28 0)) 28 0 ((σ.1 28 0) + 1)) 0 (nI (10 + i))) CX hP hS dX_activate_37 (⟨rfl, rfl⟩)
set_option maxRecDepth 100000 in
set_option maxHeartbeats 800000 in
theorem cX_startPlugin_0 (l : Launch) (D : va_G) (cA : Nat → ClassId) {ad : Nat → Nat} (hJ : kw_J 36 ad) (σ : XS) (i : Nat) (hi : i < 8) (h0 : cnt0 (σ.1 7) 8 ≤ 0) : kx_Met l yX_startPlugin (.code yX_startPlugin bX_startPlugin 3 (Option.some .int) :: kw_T) (kw_R 2) D (kx_tys cA) 36 ad (wX cA ad) σ [.ref (ad 0), .ref (ad (12 + i))] (fun r9 u9 => r9 = some (.int ((x_startP (0 + 1) σ i).1)) ∧ (x_startP (0 + 1) σ i).2 = u9) := by
  refine kx_of hJ (by decide +kernel) (Nat.le_of_ble_eq_true rfl) ?_
  intro p e s m args below meth c CX ls hl hP hS
  obtain ⟨hx, hb, hr, hml, hown, hts, hlk, hK, hJ1, hZ⟩ := id CX
  have hl : lv_has ls 3 [(0, .ref (ad 0)), (1, .ref (ad (12 + i)))] := hl
  refine lv_aload_n hx hb dX_startPlugin_0 rfl (lv_at hl 1 rfl) ?_
  refine xP_get CX hP (by omega) 1 (by omega) wl_44 rfl dX_startPlugin_1 ?_
  refine lv_if_ne (tgt := 10) hx hb dX_startPlugin_4 (by decide) (fun c_4 => ?_) (fun c_4 => ?_)
  · skip
    refine lv_aload_n hx hb dX_startPlugin_10 rfl (lv_at hl 1 rfl) ?_
    refine xP_get CX hP (by omega) 1 (by omega) wl_44 rfl dX_startPlugin_11 ?_
    refine lv_iconst (v := 2) hx hb dX_startPlugin_14 (by decide) ?_
    refine lv_icmp_ne (tgt := 20) hx hb dX_startPlugin_15 (by decide) (fun c_15 => ?_) (fun c_15 => ?_)
    · skip
      refine lv_aload_n hx hb dX_startPlugin_20 rfl (lv_at hl 1 rfl) ?_
      refine xP_get CX hP (by omega) 7 (by omega) wl_54 rfl dX_startPlugin_21 ?_
      refine lv_if_eq (tgt := 30) hx hb dX_startPlugin_24 (by decide) (fun c_24 => ?_) (fun c_24 => ?_)
      · skip
        exact absurd h0 (by have := cnt0_upd (f := σ.1 7) (p := i) (v := 1) c_24 (by decide) 8; rw [if_pos hi] at this; omega)
      · skip
        refine lv_bipush (v := (-4)) hx hb dX_startPlugin_27 (by decide) ?_
        exact kx_iret (σ' := σ) CX hP hS dX_startPlugin_29 (by constructor <;> simp [bI, c_4, c_15, c_24, x_startP_s])
    · skip
      refine lv_iconst (v := 0) hx hb dX_startPlugin_18 (by decide) ?_
      exact kx_iret (σ' := σ) CX hP hS dX_startPlugin_19 (by constructor <;> simp [bI, c_4, c_15, x_startP_s])
  · skip
    refine lv_bipush (v := (-3)) hx hb dX_startPlugin_7 (by decide) ?_
    exact kx_iret (σ' := σ) CX hP hS dX_startPlugin_9 (by constructor <;> simp [bI, c_4, x_startP_s])
set_option maxRecDepth 100000 in
set_option maxHeartbeats 800000 in
theorem cX_startNeeds (l : Launch) (D : va_G) (cA : Nat → ClassId) {ad : Nat → Nat} (hJ : kw_J 36 ad) (n : Nat) (hrec : ∀ (σ : XS) (k : Nat), k < 8 → cnt0 (σ.1 7) 8 ≤ n → kx_Met l yX_startPlugin (.code yX_startPlugin bX_startPlugin 3 (Option.some .int) :: kw_T) (kw_R (2 * n + 2)) D (kx_tys cA) 36 ad (wX cA ad) σ [.ref (ad 0), .ref (ad (12 + k))] (fun r u => r = some (.int (x_startP (n + 1) σ k).1) ∧ (x_startP (n + 1) σ k).2 = u)) (σ : XS) (i : Nat) (hi : i < 8) (h0 : cnt0 (σ.1 7) 8 ≤ n) : kx_Met l yX_startNeeds (.code yX_startNeeds bX_startNeeds 7 (Option.some .int) :: kw_T) (kw_R (2 * n + 3)) D (kx_tys cA) 36 ad (wX cA ad) σ [.ref (ad 0), .ref (ad (12 + i))] (fun r9 u9 => r9 = some (.int ((x_needL (x_startP (n + 1)) i 8 0 σ).1)) ∧ (x_needL (x_startP (n + 1)) i 8 0 σ).2 = u9) := by
  refine kx_of hJ (by decide +kernel) (Nat.le_of_ble_eq_true rfl) ?_
  intro p e s m args below meth c CX ls hl hP hS
  obtain ⟨hx, hb, hr, hml, hown, hts, hlk, hK, hJ1, hZ⟩ := id CX
  have hl : lv_has ls 7 [(0, .ref (ad 0)), (1, .ref (ad (12 + i)))] := hl
  refine lv_aload_n hx hb dX_startNeeds_0 rfl (lv_at hl 0 rfl) ?_
  refine xX_get CX hP 0 (by omega) wl_111 rfl dX_startNeeds_1 ?_
  refine lv_astore_n (lv' := [(2, .ref (ad 1)), (0, .ref (ad 0)), (1, .ref (ad (12 + i)))]) hx hb dX_startNeeds_4 rfl hl (by decide) rfl (fun ls hl => ?_)
  refine lv_aload_n hx hb dX_startNeeds_5 rfl (lv_at hl 0 rfl) ?_
  refine kx_alen (v := 8) CX hP (k := 1) (t0 := 3) (by omega) rfl rfl rfl rfl dX_startNeeds_6 ?_
  refine lv_istore_n (lv' := [(3, .int 8), (2, .ref (ad 1)), (0, .ref (ad 0)), (1, .ref (ad (12 + i)))]) hx hb dX_startNeeds_7 rfl hl (by decide) rfl (fun ls hl => ?_)
  refine lv_iconst (v := 0) hx hb dX_startNeeds_8 (by decide) ?_
  refine lv_istore (lv' := [(4, .int 0), (3, .int 8), (2, .ref (ad 1)), (0, .ref (ad 0)), (1, .ref (ad (12 + i)))]) hx hb dX_startNeeds_9 hl (by decide) rfl (fun ls hl => ?_)
  have loop_11 : ∀ (fu : Nat) (k : Nat) (v : XS), (k ≤ 8) → (cnt0 (v.1 7) 8 ≤ n) → (x_needL (x_startP (n + 1)) i 8 0 σ = x_needL (x_startP (n + 1)) i (8 - k) k v) → 8 - k < fu → ∀ (H : Heap) (locs : List Loc), va_P D classes (kw_W 36 ad (wX cA ad v)) H → va_S (kw_A 36 ad s.heap.size) s.heap H locs → ∀ (ls : Array Slot), lv_has ls 7 [(0, .ref (ad 0)), (1, .ref (ad (12 + i))), (2, .ref (ad 1)), (3, .int 8), (4, .int (nI k))] → W p l e (kw_R (2 * n + 3)) s m args below meth c H locs 0 0 (kx_Q below D 36 ad (wX cA ad) (fun r9 u9 => r9 = some (.int ((x_needL (x_startP (n + 1)) i 8 0 σ).1)) ∧ (x_needL (x_startP (n + 1)) i 8 0 σ).2 = u9) args s) (F0 m 11 ls []) := by
    intro fu11
    induction fu11 with
    | zero => intro k v hk hu7 hq hm11; exact absurd hm11 (Nat.not_lt_zero _)
    | succ fu11 ih11 =>
      intro k v hk hu7 hq hm11 H locs hP hS ls hl
      refine lv_iload hx hb dX_startNeeds_11 (lv_at hl 4 rfl) ?_
      refine lv_iload_n hx hb dX_startNeeds_13 rfl (lv_at hl 3 rfl) ?_
      refine lv_icmp_ge (tgt := 88) hx hb dX_startNeeds_14 (by decide) (fun c_14 => ?_) (fun c_14 => ?_)
      · have c_14i := c_14
        have c_14 : 8 ≤ k := (nI_le' (a := 8) (b := k) (by omega) (by omega)).mp c_14
        refine lv_iconst (v := 0) hx hb dX_startNeeds_88 (by decide) ?_
        exact kx_iret (σ' := v) CX hP hS dX_startNeeds_89 (by rw [hq, show 8 - k = 0 by omega]; exact ⟨rfl, rfl⟩)
      · have c_14i := c_14
        have c_14 : ¬ (8 ≤ k) := fun hq9 => c_14 ((nI_le' (a := 8) (b := k) (by omega) (by omega)).mpr hq9)
        refine lv_aload_n hx hb dX_startNeeds_17 rfl (lv_at hl 2 rfl) ?_
        refine lv_iload hx hb dX_startNeeds_18 (lv_at hl 4 rfl) ?_
        refine xA_P CX hP k (rfl) (by omega) dX_startNeeds_20 ?_
        refine lv_astore (lv' := [(5, .ref (ad (12 + k))), (0, .ref (ad 0)), (1, .ref (ad (12 + i))), (2, .ref (ad 1)), (3, .int 8), (4, .int (nI k))]) hx hb dX_startNeeds_21 hl (by decide) rfl (fun ls hl => ?_)
        refine lv_aload_n hx hb dX_startNeeds_23 rfl (lv_at hl 2 rfl) ?_
        refine lv_aload hx hb dX_startNeeds_24 (lv_at hl 0 rfl) ?_
        refine xP_get CX hP (by omega) 0 (by omega) wl_43 rfl dX_startNeeds_26 ?_
        refine kx_callV1 (σ1 := v) (v := .int (bI (bitb (v.1 2 i) (nI k) = true))) (n := 1) (As := [.int (nI k)]) (rest := []) CX hP hS hl.1 (cP_requires l D cA hJ v i (by omega) (nI k)) wl_162 wl_163 wl_164 wl_3 wl_165 ⟨rfl, by decide +kernel, by decide +kernel, by decide +kernel⟩ (kw_R_ok (by omega) (by omega)) ⟨rfl, rfl⟩ (k := 12 + i) (by omega) (wX_aP (by omega)) rfl rfl rfl rfl (Nat.le_of_ble_eq_true rfl) dX_startNeeds_29 (fun H locs hP hS => ?_)
        refine lv_if_eq (tgt := 54) hx hb dX_startNeeds_32 (by decide) (fun c_32 => ?_) (fun c_32 => ?_)
        · have c_32 := bI_eq0.mp c_32
          refine lv_aload_n hx hb dX_startNeeds_54 rfl (lv_at hl 2 rfl) ?_
          refine lv_aload hx hb dX_startNeeds_55 (lv_at hl 0 rfl) ?_
          refine xP_get CX hP (by omega) 0 (by omega) wl_43 rfl dX_startNeeds_57 ?_
          refine kx_callV1 (σ1 := v) (v := .int (bI (bitb (v.1 3 i) (nI k) = true))) (n := 1) (As := [.int (nI k)]) (rest := []) CX hP hS hl.1 (cP_wishes l D cA hJ v i (by omega) (nI k)) wl_166 wl_167 wl_168 wl_3 wl_169 ⟨rfl, by decide +kernel, by decide +kernel, by decide +kernel⟩ (kw_R_ok (by omega) (by omega)) ⟨rfl, rfl⟩ (k := 12 + i) (by omega) (wX_aP (by omega)) rfl rfl rfl rfl (Nat.le_of_ble_eq_true rfl) dX_startNeeds_60 (fun H locs hP hS => ?_)
          refine lv_if_eq (tgt := 82) hx hb dX_startNeeds_63 (by decide) (fun c_63 => ?_) (fun c_63 => ?_)
          · have c_63 := bI_eq0.mp c_63
            refine lv_iinc (v := nI (k + 1)) (lv' := [(4, .int (nI (k + 1))), (5, .ref (ad (12 + k))), (0, .ref (ad 0)), (1, .ref (ad (12 + i))), (2, .ref (ad 1)), (3, .int 8)]) hx hb dX_startNeeds_82 hl (k := 5) rfl (nI_i1 k) (by decide) rfl (fun ls hl => ?_)
            refine lv_goto (tgt := 11) hx hb dX_startNeeds_85 (by decide) ?_
            exact ih11 (k + 1) v (by omega) hu7 (by rw [hq, show 8 - k = 8 - (k + 1) + 1 by omega]; simp [x_needL, c_32, c_63]) (by omega) _ _ hP hS ls (lv_sub hl [2, 3, 4, 5, 0] rfl)
          · have c_63 := bI_ne0.mp c_63
            refine lv_aload hx hb dX_startNeeds_66 (lv_at hl 0 rfl) ?_
            refine xP_get CX hP (by omega) 1 (by omega) wl_44 rfl dX_startNeeds_68 ?_
            refine lv_iconst (v := 1) hx hb dX_startNeeds_71 (by decide) ?_
            refine lv_icmp_ne (tgt := 82) hx hb dX_startNeeds_72 (by decide) (fun c_72 => ?_) (fun c_72 => ?_)
            · skip
              refine lv_iinc (v := nI (k + 1)) (lv' := [(4, .int (nI (k + 1))), (5, .ref (ad (12 + k))), (0, .ref (ad 0)), (1, .ref (ad (12 + i))), (2, .ref (ad 1)), (3, .int 8)]) hx hb dX_startNeeds_82 hl (k := 5) rfl (nI_i1 k) (by decide) rfl (fun ls hl => ?_)
              refine lv_goto (tgt := 11) hx hb dX_startNeeds_85 (by decide) ?_
              exact ih11 (k + 1) v (by omega) hu7 (by rw [hq, show 8 - k = 8 - (k + 1) + 1 by omega]; simp [x_needL, c_32, c_63, c_72]) (by omega) _ _ hP hS ls (lv_sub hl [2, 3, 4, 5, 0] rfl)
            · skip
              refine lv_aload_n hx hb dX_startNeeds_75 rfl (lv_at hl 1 rfl) ?_
              refine lv_aload hx hb dX_startNeeds_76 (lv_at hl 0 rfl) ?_
              refine kx_callV1 (σ1 := (x_startP (n + 1) v k).2) (v := .int ((x_startP (n + 1) v k).1)) (n := 1) (As := [.ref (ad (12 + k))]) (rest := []) CX hP hS hl.1 (hrec v k (by omega) hu7) wl_198 wl_200 wp_2 wl_1 wl_201 ⟨rfl, by decide +kernel, by decide +kernel, by decide +kernel⟩ (kw_R_ok (by omega) (by omega)) ⟨rfl, rfl⟩ (k := 0) (by omega) rfl rfl rfl rfl rfl (Nat.le_of_ble_eq_true rfl) dX_startNeeds_78 (fun H locs hP hS => ?_)
              refine lv_pop hx hb dX_startNeeds_81 rfl ?_
              refine lv_iinc (v := nI (k + 1)) (lv' := [(4, .int (nI (k + 1))), (5, .ref (ad (12 + k))), (0, .ref (ad 0)), (1, .ref (ad (12 + i))), (2, .ref (ad 1)), (3, .int 8)]) hx hb dX_startNeeds_82 hl (k := 5) rfl (nI_i1 k) (by decide) rfl (fun ls hl => ?_)
              refine lv_goto (tgt := 11) hx hb dX_startNeeds_85 (by decide) ?_
              exact ih11 (k + 1) ((x_startP (n + 1) v k).2) (by omega) (by rw [x_startP_7]; exact hu7) (by rw [hq, show 8 - k = 8 - (k + 1) + 1 by omega]; simp [x_needL, c_32, c_63, c_72]) (by omega) _ _ hP hS ls (lv_sub hl [2, 3, 4, 5, 0] rfl)
        · have c_32 := bI_ne0.mp c_32
          refine lv_aload_n hx hb dX_startNeeds_35 rfl (lv_at hl 1 rfl) ?_
          refine lv_aload hx hb dX_startNeeds_36 (lv_at hl 0 rfl) ?_
          refine kx_callV1 (σ1 := (x_startP (n + 1) v k).2) (v := .int ((x_startP (n + 1) v k).1)) (n := 1) (As := [.ref (ad (12 + k))]) (rest := []) CX hP hS hl.1 (hrec v k (by omega) hu7) wl_198 wl_200 wp_2 wl_1 wl_201 ⟨rfl, by decide +kernel, by decide +kernel, by decide +kernel⟩ (kw_R_ok (by omega) (by omega)) ⟨rfl, rfl⟩ (k := 0) (by omega) rfl rfl rfl rfl rfl (Nat.le_of_ble_eq_true rfl) dX_startNeeds_38 (fun H locs hP hS => ?_)
          refine lv_istore (lv' := [(6, .int ((x_startP (n + 1) v k).1)), (5, .ref (ad (12 + k))), (0, .ref (ad 0)), (1, .ref (ad (12 + i))), (2, .ref (ad 1)), (3, .int 8), (4, .int (nI k))]) hx hb dX_startNeeds_41 hl (by decide) rfl (fun ls hl => ?_)
          refine lv_iload hx hb dX_startNeeds_43 (lv_at hl 0 rfl) ?_
          refine lv_if_eq (tgt := 51) hx hb dX_startNeeds_45 (by decide) (fun c_45 => ?_) (fun c_45 => ?_)
          · skip
            refine lv_goto (tgt := 82) hx hb dX_startNeeds_51 (by decide) ?_
            refine lv_iinc (v := nI (k + 1)) (lv' := [(4, .int (nI (k + 1))), (6, .int ((x_startP (n + 1) v k).1)), (5, .ref (ad (12 + k))), (0, .ref (ad 0)), (1, .ref (ad (12 + i))), (2, .ref (ad 1)), (3, .int 8)]) hx hb dX_startNeeds_82 hl (k := 6) rfl (nI_i1 k) (by decide) rfl (fun ls hl => ?_)
            refine lv_goto (tgt := 11) hx hb dX_startNeeds_85 (by decide) ?_
            exact ih11 (k + 1) ((x_startP (n + 1) v k).2) (by omega) (by rw [x_startP_7]; exact hu7) (by rw [hq, show 8 - k = 8 - (k + 1) + 1 by omega]; simp [x_needL, c_32, c_45]) (by omega) _ _ hP hS ls (lv_sub hl [3, 4, 5, 6, 0] rfl)
          · skip
            refine lv_iload hx hb dX_startNeeds_48 (lv_at hl 0 rfl) ?_
            exact kx_iret (σ' := (x_startP (n + 1) v k).2) CX hP hS dX_startNeeds_50 (by rw [hq, show 8 - k = 8 - (k + 1) + 1 by omega]; constructor <;> simp [x_needL, c_32, c_45])
  exact loop_11 ((8 - 0) + 1) 0 σ (by omega) h0 rfl (Nat.lt_succ_self _) _ _ hP hS ls (lv_sub hl [3, 4, 2, 1, 0] rfl)
set_option maxRecDepth 100000 in
set_option maxHeartbeats 800000 in
theorem cX_startPlugin_s (l : Launch) (D : va_G) (cA : Nat → ClassId) {ad : Nat → Nat} (hJ : kw_J 36 ad) (n : Nat) (hN : ∀ (σ : XS) (k : Nat), k < 8 → cnt0 (σ.1 7) 8 ≤ n → kx_Met l yX_startNeeds (.code yX_startNeeds bX_startNeeds 7 (Option.some .int) :: kw_T) (kw_R (2 * n + 3)) D (kx_tys cA) 36 ad (wX cA ad) σ [.ref (ad 0), .ref (ad (12 + k))] (fun r u => r = some (.int (x_needL (x_startP (n + 1)) k 8 0 σ).1) ∧ (x_needL (x_startP (n + 1)) k 8 0 σ).2 = u)) (σ : XS) (i : Nat) (hi : i < 8) (h0 : cnt0 (σ.1 7) 8 ≤ n + 1) : kx_Met l yX_startPlugin (.code yX_startPlugin bX_startPlugin 3 (Option.some .int) :: kw_T) (kw_R (2 * (n + 1) + 2)) D (kx_tys cA) 36 ad (wX cA ad) σ [.ref (ad 0), .ref (ad (12 + i))] (fun r9 u9 => r9 = some (.int ((x_startP (n + 1 + 1) σ i).1)) ∧ (x_startP (n + 1 + 1) σ i).2 = u9) := by
  refine kx_of hJ (by decide +kernel) (Nat.le_of_ble_eq_true rfl) ?_
  intro p e s m args below meth c CX ls hl hP hS
  obtain ⟨hx, hb, hr, hml, hown, hts, hlk, hK, hJ1, hZ⟩ := id CX
  have hl : lv_has ls 3 [(0, .ref (ad 0)), (1, .ref (ad (12 + i)))] := hl
  refine lv_aload_n hx hb dX_startPlugin_0 rfl (lv_at hl 1 rfl) ?_
  refine xP_get CX hP (by omega) 1 (by omega) wl_44 rfl dX_startPlugin_1 ?_
  refine lv_if_ne (tgt := 10) hx hb dX_startPlugin_4 (by decide) (fun c_4 => ?_) (fun c_4 => ?_)
  · skip
    refine lv_aload_n hx hb dX_startPlugin_10 rfl (lv_at hl 1 rfl) ?_
    refine xP_get CX hP (by omega) 1 (by omega) wl_44 rfl dX_startPlugin_11 ?_
    refine lv_iconst (v := 2) hx hb dX_startPlugin_14 (by decide) ?_
    refine lv_icmp_ne (tgt := 20) hx hb dX_startPlugin_15 (by decide) (fun c_15 => ?_) (fun c_15 => ?_)
    · skip
      refine lv_aload_n hx hb dX_startPlugin_20 rfl (lv_at hl 1 rfl) ?_
      refine xP_get CX hP (by omega) 7 (by omega) wl_54 rfl dX_startPlugin_21 ?_
      refine lv_if_eq (tgt := 30) hx hb dX_startPlugin_24 (by decide) (fun c_24 => ?_) (fun c_24 => ?_)
      · skip
        refine lv_aload_n hx hb dX_startPlugin_30 rfl (lv_at hl 1 rfl) ?_
        refine lv_iconst (v := 1) hx hb dX_startPlugin_31 (by decide) ?_
        refine xP_put CX hP hS (by omega) 7 (by omega) (by omega) wl_54 ⟨rfl, rfl⟩ dX_startPlugin_32 (fun H locs hP hS => ?_)
        refine lv_aload_n hx hb dX_startPlugin_35 rfl (lv_at hl 0 rfl) ?_
        refine lv_aload_n hx hb dX_startPlugin_36 rfl (lv_at hl 1 rfl) ?_
        refine kx_callV1 (σ1 := (x_needL (x_startP (n + 1)) i 8 0 (xs σ 7 i 1)).2) (v := .int ((x_needL (x_startP (n + 1)) i 8 0 (xs σ 7 i 1)).1)) (n := 1) (As := [.ref (ad (12 + i))]) (rest := []) CX hP hS hl.1 (hN (xs σ 7 i 1) i (by omega) (cnt0_start hi c_24 h0)) wl_202 wl_204 wp_3 wl_1 wl_205 ⟨rfl, by decide +kernel, by decide +kernel, by decide +kernel⟩ (kw_R_ok (by omega) (by omega)) ⟨rfl, rfl⟩ (k := 0) (by omega) rfl rfl rfl rfl rfl (Nat.le_of_ble_eq_true rfl) dX_startPlugin_37 (fun H locs hP hS => ?_)
        refine lv_istore_n (lv' := [(2, .int ((x_needL (x_startP (n + 1)) i 8 0 (xs σ 7 i 1)).1)), (0, .ref (ad 0)), (1, .ref (ad (12 + i)))]) hx hb dX_startPlugin_40 rfl hl (by decide) rfl (fun ls hl => ?_)
        refine lv_aload_n hx hb dX_startPlugin_41 rfl (lv_at hl 2 rfl) ?_
        refine lv_iconst (v := 0) hx hb dX_startPlugin_42 (by decide) ?_
        refine xP_put CX hP hS (by omega) 7 (by omega) (by omega) wl_54 ⟨rfl, rfl⟩ dX_startPlugin_43 (fun H locs hP hS => ?_)
        refine lv_iload_n hx hb dX_startPlugin_46 rfl (lv_at hl 0 rfl) ?_
        refine lv_if_ne (tgt := 55) hx hb dX_startPlugin_47 (by decide) (fun c_47 => ?_) (fun c_47 => ?_)
        · skip
          refine lv_iload_n hx hb dX_startPlugin_55 rfl (lv_at hl 0 rfl) ?_
          exact kx_iret (σ' := xs ((x_needL (x_startP (n + 1)) i 8 0 (xs σ 7 i 1)).2) 7 i 0) CX hP hS dX_startPlugin_56 (by constructor <;> simp [bI, c_4, c_15, c_24, c_47, x_startP_s])
        · skip
          refine lv_aload_n hx hb dX_startPlugin_50 rfl (lv_at hl 1 rfl) ?_
          refine lv_aload_n hx hb dX_startPlugin_51 rfl (lv_at hl 2 rfl) ?_
          refine kx_callV0 (σ1 := x_activate (xs ((x_needL (x_startP (n + 1)) i 8 0 (xs σ 7 i 1)).2) 7 i 0) i) (n := 1) (As := [.ref (ad (12 + i))]) (rest := []) CX hP hS hl.1 (cX_activate l D cA hJ (xs ((x_needL (x_startP (n + 1)) i 8 0 (xs σ 7 i 1)).2) 7 i 0) i (by omega)) wl_206 wl_208 wp_4 wl_1 wl_209 ⟨rfl, by decide +kernel, by decide +kernel, by decide +kernel⟩ (kw_R_ok (by omega) (by omega)) ⟨rfl, rfl⟩ (k := 0) (by omega) rfl rfl rfl rfl rfl (Nat.le_of_ble_eq_true rfl) dX_startPlugin_52 (fun H locs hP hS => ?_)
          refine lv_iload_n hx hb dX_startPlugin_55 rfl (lv_at hl 0 rfl) ?_
          exact kx_iret (σ' := x_activate (xs ((x_needL (x_startP (n + 1)) i 8 0 (xs σ 7 i 1)).2) 7 i 0) i) CX hP hS dX_startPlugin_56 (by constructor <;> simp [bI, c_4, c_15, c_24, c_47, x_startP_s])
      · skip
        refine lv_bipush (v := (-4)) hx hb dX_startPlugin_27 (by decide) ?_
        exact kx_iret (σ' := σ) CX hP hS dX_startPlugin_29 (by constructor <;> simp [bI, c_4, c_15, c_24, x_startP_s])
    · skip
      refine lv_iconst (v := 0) hx hb dX_startPlugin_18 (by decide) ?_
      exact kx_iret (σ' := σ) CX hP hS dX_startPlugin_19 (by constructor <;> simp [bI, c_4, c_15, x_startP_s])
  · skip
    refine lv_bipush (v := (-3)) hx hb dX_startPlugin_7 (by decide) ?_
    exact kx_iret (σ' := σ) CX hP hS dX_startPlugin_9 (by constructor <;> simp [bI, c_4, x_startP_s])
theorem cX_startPlugin (l : Launch) (D : va_G) (cA : Nat → ClassId) {ad : Nat → Nat} (hJ : kw_J 36 ad) : ∀ (n : Nat) (σ : XS) (i : Nat), i < 8 → cnt0 (σ.1 7) 8 ≤ n → kx_Met l yX_startPlugin (.code yX_startPlugin bX_startPlugin 3 (Option.some .int) :: kw_T) (kw_R (2 * n + 2)) D (kx_tys cA) 36 ad (wX cA ad) σ [.ref (ad 0), .ref (ad (12 + i))] (fun r u => r = some (.int (x_startP (n + 1) σ i).1) ∧ (x_startP (n + 1) σ i).2 = u) := by
  intro n
  induction n with
  | zero => intro σ i hi h0; exact cX_startPlugin_0 l D cA hJ σ i hi h0
  | succ n ih => intro σ i hi h0; exact cX_startPlugin_s l D cA hJ n (fun σ' k hk h1 => cX_startNeeds l D cA hJ n ih σ' k hk h1) σ i hi h0
set_option maxRecDepth 100000 in
set_option maxHeartbeats 800000 in
theorem cX_start (l : Launch) (D : va_G) (cA : Nat → ClassId) {ad : Nat → Nat} (hJ : kw_J 36 ad) (σ : XS) (x1 : Int32) : kx_Met l yX_start (.code yX_start bX_start 2 (Option.some .int) :: kw_T) (kw_R 19) D (kx_tys cA) 36 ad (wX cA ad) σ [.ref (ad 0), .int x1] (fun r9 u9 => r9 = some (.int ((x_start σ x1).1)) ∧ (x_start σ x1).2 = u9) := by
  refine kx_of hJ (by decide +kernel) (Nat.le_of_ble_eq_true rfl) ?_
  intro p e s m args below meth c CX ls hl hP hS
  obtain ⟨hx, hb, hr, hml, hown, hts, hlk, hK, hJ1, hZ⟩ := id CX
  have hl : lv_has ls 2 [(0, .ref (ad 0)), (1, .int x1)] := hl
  refine lv_iload_n hx hb dX_start_0 rfl (lv_at hl 1 rfl) ?_
  refine kx_callS1 (σ1 := σ) (v := .int (bI (in8 x1 = true))) (n := 1) (As := [.int x1]) (rest := []) CX hP hS hl.1 (cX_isPlugin l D cA hJ σ x1) wl_143 wl_144 wl_1 wl_145 ⟨by decide +kernel, by decide +kernel, by decide +kernel⟩ (kw_R_ok (by omega) (by omega)) ⟨rfl, rfl⟩ rfl rfl (Nat.le_of_ble_eq_true rfl) dX_start_1 (fun H locs hP hS => ?_)
  refine lv_if_eq (tgt := 20) hx hb dX_start_4 (by decide) (fun c_4 => ?_) (fun c_4 => ?_)
  · have c_4 := bI_eq0.mp c_4
    refine lv_iconst (v := (-1)) hx hb dX_start_20 (by decide) ?_
    exact kx_iret (σ' := σ) CX hP hS dX_start_21 (by constructor <;> simp [bI, c_4, x_start])
  · have c_4 := bI_ne0.mp c_4
    obtain ⟨j, hj, rfl⟩ := in8_of c_4
    have ej : pn (nI j) = j := pn_nI (by omega)
    refine lv_aload_n hx hb dX_start_7 rfl (lv_at hl 0 rfl) ?_
    refine lv_aload_n hx hb dX_start_8 rfl (lv_at hl 0 rfl) ?_
    refine xX_get CX hP 0 (by omega) wl_111 rfl dX_start_9 ?_
    refine lv_iload_n hx hb dX_start_12 rfl (lv_at hl 1 rfl) ?_
    refine xA_P CX hP j (rfl) (by omega) dX_start_13 ?_
    refine kx_callV1 (σ1 := (x_startP (8 + 1) σ j).2) (v := .int ((x_startP (8 + 1) σ j).1)) (n := 1) (As := [.ref (ad (12 + j))]) (rest := []) CX hP hS hl.1 (cX_startPlugin l D cA hJ 8 σ j (by omega) (cnt0_le _ _)) wl_198 wl_200 wp_2 wl_1 wl_201 ⟨rfl, by decide +kernel, by decide +kernel, by decide +kernel⟩ (kw_R_ok (by omega) (by omega)) ⟨rfl, rfl⟩ (k := 0) (by omega) rfl rfl rfl rfl rfl (Nat.le_of_ble_eq_true rfl) dX_start_14 (fun H locs hP hS => ?_)
    refine lv_goto (tgt := 21) hx hb dX_start_17 (by decide) ?_
    exact kx_iret (σ' := (x_startP (8 + 1) σ j).2) CX hP hS dX_start_21 (by constructor <;> simp [bI, c_4, ej, x_start])
set_option maxRecDepth 100000 in
set_option maxHeartbeats 800000 in
theorem cX_startAll (l : Launch) (D : va_G) (cA : Nat → ClassId) {ad : Nat → Nat} (hJ : kw_J 36 ad) (σ : XS) : kx_Met l yX_startAll (.code yX_startAll bX_startAll 5 (Option.some .int) :: kw_T) (kw_R 19) D (kx_tys cA) 36 ad (wX cA ad) σ [.ref (ad 0)] (fun r9 u9 => r9 = some (.int (cntX (x_allL σ 8) 8)) ∧ x_allL σ 8 = u9) := by
  refine kx_of hJ (by decide +kernel) (Nat.le_of_ble_eq_true rfl) ?_
  intro p e s m args below meth c CX ls hl hP hS
  obtain ⟨hx, hb, hr, hml, hown, hts, hlk, hK, hJ1, hZ⟩ := id CX
  have hl : lv_has ls 5 [(0, .ref (ad 0))] := hl
  refine lv_aload_n hx hb dX_startAll_0 rfl (lv_at hl 0 rfl) ?_
  refine xX_get CX hP 0 (by omega) wl_111 rfl dX_startAll_1 ?_
  refine lv_astore_n (lv' := [(1, .ref (ad 1)), (0, .ref (ad 0))]) hx hb dX_startAll_4 rfl hl (by decide) rfl (fun ls hl => ?_)
  refine lv_aload_n hx hb dX_startAll_5 rfl (lv_at hl 0 rfl) ?_
  refine kx_alen (v := 8) CX hP (k := 1) (t0 := 3) (by omega) rfl rfl rfl rfl dX_startAll_6 ?_
  refine lv_istore_n (lv' := [(2, .int 8), (1, .ref (ad 1)), (0, .ref (ad 0))]) hx hb dX_startAll_7 rfl hl (by decide) rfl (fun ls hl => ?_)
  refine lv_iconst (v := 0) hx hb dX_startAll_8 (by decide) ?_
  refine lv_istore_n (lv' := [(3, .int 0), (2, .int 8), (1, .ref (ad 1)), (0, .ref (ad 0))]) hx hb dX_startAll_9 rfl hl (by decide) rfl (fun ls hl => ?_)
  have loop_10 : ∀ (fu : Nat) (i : Nat) (v : XS), (i ≤ 8) → (v = x_allL σ i) → 8 - i < fu → ∀ (H : Heap) (locs : List Loc), va_P D classes (kw_W 36 ad (wX cA ad v)) H → va_S (kw_A 36 ad s.heap.size) s.heap H locs → ∀ (ls : Array Slot), lv_has ls 5 [(0, .ref (ad 0)), (1, .ref (ad 1)), (2, .int 8), (3, .int (nI i))] → W p l e (kw_R 19) s m args below meth c H locs 0 0 (kx_Q below D 36 ad (wX cA ad) (fun r9 u9 => r9 = some (.int (cntX (x_allL σ 8) 8)) ∧ x_allL σ 8 = u9) args s) (F0 m 10 ls []) := by
    intro fu10
    induction fu10 with
    | zero => intro i v hi hv hm10; exact absurd hm10 (Nat.not_lt_zero _)
    | succ fu10 ih10 =>
      intro i v hi hv hm10 H locs hP hS ls hl
      refine lv_iload_n hx hb dX_startAll_10 rfl (lv_at hl 3 rfl) ?_
      refine lv_iload_n hx hb dX_startAll_11 rfl (lv_at hl 2 rfl) ?_
      refine lv_icmp_ge (tgt := 33) hx hb dX_startAll_12 (by decide) (fun c_12 => ?_) (fun c_12 => ?_)
      · have c_12i := c_12
        have c_12 : 8 ≤ i := (nI_le' (a := 8) (b := i) (by omega) (by omega)).mp c_12
        refine lv_aload_n hx hb dX_startAll_33 rfl (lv_at hl 0 rfl) ?_
        refine kx_callV1 (σ1 := v) (v := .int (cntX v 8)) (n := 0) (As := []) (rest := []) CX hP hS hl.1 (cX_activePlugins l D cA hJ v) wl_234 wl_236 wp_8 wl_1 wl_237 ⟨rfl, by decide +kernel, by decide +kernel, by decide +kernel⟩ (kw_R_ok (by omega) (by omega)) ⟨rfl, rfl⟩ (k := 0) (by omega) rfl rfl rfl rfl rfl (Nat.le_of_ble_eq_true rfl) dX_startAll_34 (fun H locs hP hS => ?_)
        exact kx_iret (σ' := v) CX hP hS dX_startAll_37 (by (have h8 : i = 8 := by omega); subst h8; rw [hv]; exact ⟨rfl, rfl⟩)
      · have c_12i := c_12
        have c_12 : ¬ (8 ≤ i) := fun hq9 => c_12 ((nI_le' (a := 8) (b := i) (by omega) (by omega)).mpr hq9)
        refine lv_aload_n hx hb dX_startAll_15 rfl (lv_at hl 1 rfl) ?_
        refine lv_iload_n hx hb dX_startAll_16 rfl (lv_at hl 3 rfl) ?_
        refine xA_P CX hP i (rfl) (by omega) dX_startAll_17 ?_
        refine lv_astore (lv' := [(4, .ref (ad (12 + i))), (0, .ref (ad 0)), (1, .ref (ad 1)), (2, .int 8), (3, .int (nI i))]) hx hb dX_startAll_18 hl (by decide) rfl (fun ls hl => ?_)
        refine lv_aload_n hx hb dX_startAll_20 rfl (lv_at hl 1 rfl) ?_
        refine lv_aload hx hb dX_startAll_21 (lv_at hl 0 rfl) ?_
        refine kx_callV1 (σ1 := (x_startP (8 + 1) v i).2) (v := .int ((x_startP (8 + 1) v i).1)) (n := 1) (As := [.ref (ad (12 + i))]) (rest := []) CX hP hS hl.1 (cX_startPlugin l D cA hJ 8 v i (by omega) (cnt0_le _ _)) wl_198 wl_200 wp_2 wl_1 wl_201 ⟨rfl, by decide +kernel, by decide +kernel, by decide +kernel⟩ (kw_R_ok (by omega) (by omega)) ⟨rfl, rfl⟩ (k := 0) (by omega) rfl rfl rfl rfl rfl (Nat.le_of_ble_eq_true rfl) dX_startAll_23 (fun H locs hP hS => ?_)
        refine lv_pop hx hb dX_startAll_26 rfl ?_
        refine lv_iinc (v := nI (i + 1)) (lv' := [(3, .int (nI (i + 1))), (4, .ref (ad (12 + i))), (0, .ref (ad 0)), (1, .ref (ad 1)), (2, .int 8)]) hx hb dX_startAll_27 hl (k := 4) rfl (nI_i1 i) (by decide) rfl (fun ls hl => ?_)
        refine lv_goto (tgt := 10) hx hb dX_startAll_30 (by decide) ?_
        exact ih10 (i + 1) ((x_startP (8 + 1) v i).2) (by omega) (by rw [hv]; rfl) (by omega) _ _ hP hS ls (lv_sub hl [2, 3, 4, 0] rfl)
  exact loop_10 ((8 - 0) + 1) 0 σ (by omega) rfl (Nat.lt_succ_self _) _ _ hP hS ls (lv_sub hl [3, 2, 1, 0] rfl)
set_option maxRecDepth 100000 in
set_option maxHeartbeats 800000 in
theorem cX_lastStartedThatRequires (l : Launch) (D : va_G) (cA : Nat → ClassId) {ad : Nat → Nat} (hJ : kw_J 36 ad) (σ : XS) (i : Nat) (hi : i < 8) : kx_Met l yX_lastStartedThatRequires (.code yX_lastStartedThatRequires bX_lastStartedThatRequires 7 (Option.some (.object "PluginBoundary$Plugin")) :: kw_T) (kw_R 1) D (kx_tys cA) 36 ad (wX cA ad) σ [.ref (ad 0), .ref (ad (12 + i))] (fun r9 u9 => r9 = some (va_rf ((x_last σ i).map (fun b => ad (12 + b)))) ∧ σ = u9) := by
  refine kx_of hJ (by decide +kernel) (Nat.le_of_ble_eq_true rfl) ?_
  intro p e s m args below meth c CX ls hl hP hS
  obtain ⟨hx, hb, hr, hml, hown, hts, hlk, hK, hJ1, hZ⟩ := id CX
  have hl : lv_has ls 7 [(0, .ref (ad 0)), (1, .ref (ad (12 + i)))] := hl
  refine lv_null hx hb dX_lastStartedThatRequires_0 ?_
  refine lv_astore_nN (lv' := [(2, .null), (0, .ref (ad 0)), (1, .ref (ad (12 + i)))]) hx hb dX_lastStartedThatRequires_1 rfl hl (by decide) rfl (fun ls hl => ?_)
  refine lv_aload_n hx hb dX_lastStartedThatRequires_2 rfl (lv_at hl 1 rfl) ?_
  refine xX_get CX hP 0 (by omega) wl_111 rfl dX_lastStartedThatRequires_3 ?_
  refine lv_astore_n (lv' := [(3, .ref (ad 1)), (2, .null), (0, .ref (ad 0)), (1, .ref (ad (12 + i)))]) hx hb dX_lastStartedThatRequires_6 rfl hl (by decide) rfl (fun ls hl => ?_)
  refine lv_aload_n hx hb dX_lastStartedThatRequires_7 rfl (lv_at hl 0 rfl) ?_
  refine kx_alen (v := 8) CX hP (k := 1) (t0 := 3) (by omega) rfl rfl rfl rfl dX_lastStartedThatRequires_8 ?_
  refine lv_istore (lv' := [(4, .int 8), (3, .ref (ad 1)), (2, .null), (0, .ref (ad 0)), (1, .ref (ad (12 + i)))]) hx hb dX_lastStartedThatRequires_9 hl (by decide) rfl (fun ls hl => ?_)
  refine lv_iconst (v := 0) hx hb dX_lastStartedThatRequires_11 (by decide) ?_
  refine lv_istore (lv' := [(5, .int 0), (4, .int 8), (3, .ref (ad 1)), (2, .null), (0, .ref (ad 0)), (1, .ref (ad (12 + i)))]) hx hb dX_lastStartedThatRequires_12 hl (by decide) rfl (fun ls hl => ?_)
  have loop_14 : ∀ (fu : Nat) (k : Nat) (o : Option Nat), (k ≤ 8) → (x_lastL σ i k = o) → 8 - k < fu → ∀ (H : Heap) (locs : List Loc), va_P D classes (kw_W 36 ad (wX cA ad σ)) H → va_S (kw_A 36 ad s.heap.size) s.heap H locs → ∀ (ls : Array Slot), lv_has ls 7 [(0, .ref (ad 0)), (1, .ref (ad (12 + i))), (2, va_rf (o.map (fun b => ad (12 + b)))), (3, .ref (ad 1)), (4, .int 8), (5, .int (nI k))] → W p l e (kw_R 1) s m args below meth c H locs 0 0 (kx_Q below D 36 ad (wX cA ad) (fun r9 u9 => r9 = some (va_rf ((x_last σ i).map (fun b => ad (12 + b)))) ∧ σ = u9) args s) (F0 m 14 ls []) := by
    intro fu14
    induction fu14 with
    | zero => intro k o hk hq hm14; exact absurd hm14 (Nat.not_lt_zero _)
    | succ fu14 ih14 =>
      intro k o hk hq hm14 H locs hP hS ls hl
      refine lv_iload hx hb dX_lastStartedThatRequires_14 (lv_at hl 5 rfl) ?_
      refine lv_iload hx hb dX_lastStartedThatRequires_16 (lv_at hl 4 rfl) ?_
      refine lv_icmp_ge (tgt := 81) hx hb dX_lastStartedThatRequires_18 (by decide) (fun c_18 => ?_) (fun c_18 => ?_)
      · have c_18i := c_18
        have c_18 : 8 ≤ k := (nI_le' (a := 8) (b := k) (by omega) (by omega)).mp c_18
        cases o with
        | none =>
          have hl : lv_has ls 7 [(0, .ref (ad 0)), (1, .ref (ad (12 + i))), (2, .null), (3, .ref (ad 1)), (4, .int 8), (5, .int (nI k))] := hl
          refine lv_aload_nN hx hb dX_lastStartedThatRequires_81 rfl (lv_at hl 2 rfl) ?_
          exact kx_aret (r := none) (σ' := σ) CX hP hS dX_lastStartedThatRequires_82 (by (have h8 : k = 8 := by omega); subst h8; exact ⟨by rw [x_last, hq]; rfl, rfl⟩)
        | some b =>
          have hl : lv_has ls 7 [(0, .ref (ad 0)), (1, .ref (ad (12 + i))), (2, .ref (ad (12 + b))), (3, .ref (ad 1)), (4, .int 8), (5, .int (nI k))] := hl
          have hb8 : b < 8 := by have := (x_lastL_lt hq).1; omega
          refine lv_aload_n hx hb dX_lastStartedThatRequires_81 rfl (lv_at hl 2 rfl) ?_
          exact kx_aret (r := (some (ad (12 + b)))) (σ' := σ) CX hP hS dX_lastStartedThatRequires_82 (by (have h8 : k = 8 := by omega); subst h8; exact ⟨by rw [x_last, hq]; rfl, rfl⟩)
      · have c_18i := c_18
        have c_18 : ¬ (8 ≤ k) := fun hq9 => c_18 ((nI_le' (a := 8) (b := k) (by omega) (by omega)).mpr hq9)
        refine lv_aload_n hx hb dX_lastStartedThatRequires_21 rfl (lv_at hl 3 rfl) ?_
        refine lv_iload hx hb dX_lastStartedThatRequires_22 (lv_at hl 5 rfl) ?_
        refine xA_P CX hP k (rfl) (by omega) dX_lastStartedThatRequires_24 ?_
        refine lv_astore (lv' := [(6, .ref (ad (12 + k))), (0, .ref (ad 0)), (1, .ref (ad (12 + i))), (2, va_rf (o.map (fun b => ad (12 + b)))), (3, .ref (ad 1)), (4, .int 8), (5, .int (nI k))]) hx hb dX_lastStartedThatRequires_25 hl (by decide) rfl (fun ls hl => ?_)
        refine lv_aload hx hb dX_lastStartedThatRequires_27 (lv_at hl 0 rfl) ?_
        refine xP_get CX hP (by omega) 1 (by omega) wl_44 rfl dX_lastStartedThatRequires_29 ?_
        refine lv_iconst (v := 2) hx hb dX_lastStartedThatRequires_32 (by decide) ?_
        refine lv_icmp_ne (tgt := 75) hx hb dX_lastStartedThatRequires_33 (by decide) (fun c_33 => ?_) (fun c_33 => ?_)
        · skip
          refine lv_iinc (v := nI (k + 1)) (lv' := [(5, .int (nI (k + 1))), (6, .ref (ad (12 + k))), (0, .ref (ad 0)), (1, .ref (ad (12 + i))), (2, va_rf (o.map (fun b => ad (12 + b)))), (3, .ref (ad 1)), (4, .int 8)]) hx hb dX_lastStartedThatRequires_75 hl (k := 6) rfl (nI_i1 k) (by decide) rfl (fun ls hl => ?_)
          refine lv_goto (tgt := 14) hx hb dX_lastStartedThatRequires_78 (by decide) ?_
          exact ih14 (k + 1) o (by omega) (by simp [x_lastL, x_later, hq, c_33]) (by omega) _ _ hP hS ls (lv_sub hl [2, 3, 4, 5, 6, 0] rfl)
        · skip
          refine lv_aload hx hb dX_lastStartedThatRequires_36 (lv_at hl 0 rfl) ?_
          refine xP_get CX hP (by omega) 8 (by omega) wl_55 rfl dX_lastStartedThatRequires_38 ?_
          refine lv_if_ne (tgt := 75) hx hb dX_lastStartedThatRequires_41 (by decide) (fun c_41 => ?_) (fun c_41 => ?_)
          · skip
            refine lv_iinc (v := nI (k + 1)) (lv' := [(5, .int (nI (k + 1))), (6, .ref (ad (12 + k))), (0, .ref (ad 0)), (1, .ref (ad (12 + i))), (2, va_rf (o.map (fun b => ad (12 + b)))), (3, .ref (ad 1)), (4, .int 8)]) hx hb dX_lastStartedThatRequires_75 hl (k := 6) rfl (nI_i1 k) (by decide) rfl (fun ls hl => ?_)
            refine lv_goto (tgt := 14) hx hb dX_lastStartedThatRequires_78 (by decide) ?_
            exact ih14 (k + 1) o (by omega) (by simp [x_lastL, x_later, hq, c_33, c_41]) (by omega) _ _ hP hS ls (lv_sub hl [2, 3, 4, 5, 6, 0] rfl)
          · skip
            refine lv_aload hx hb dX_lastStartedThatRequires_44 (lv_at hl 0 rfl) ?_
            refine lv_aload_n hx hb dX_lastStartedThatRequires_46 rfl (lv_at hl 2 rfl) ?_
            refine xP_get CX hP (by omega) 0 (by omega) wl_43 rfl dX_lastStartedThatRequires_47 ?_
            refine kx_callV1 (σ1 := σ) (v := .int (bI (bitb (σ.1 2 k) (nI i) = true))) (n := 1) (As := [.int (nI i)]) (rest := []) CX hP hS hl.1 (cP_requires l D cA hJ σ k (by omega) (nI i)) wl_162 wl_163 wl_164 wl_3 wl_165 ⟨rfl, by decide +kernel, by decide +kernel, by decide +kernel⟩ (kw_R_ok (by omega) (by omega)) ⟨rfl, rfl⟩ (k := 12 + k) (by omega) (wX_aP (by omega)) rfl rfl rfl rfl (Nat.le_of_ble_eq_true rfl) dX_lastStartedThatRequires_50 (fun H locs hP hS => ?_)
            refine lv_if_eq (tgt := 75) hx hb dX_lastStartedThatRequires_53 (by decide) (fun c_53 => ?_) (fun c_53 => ?_)
            · have c_53 := bI_eq0.mp c_53
              refine lv_iinc (v := nI (k + 1)) (lv' := [(5, .int (nI (k + 1))), (6, .ref (ad (12 + k))), (0, .ref (ad 0)), (1, .ref (ad (12 + i))), (2, va_rf (o.map (fun b => ad (12 + b)))), (3, .ref (ad 1)), (4, .int 8)]) hx hb dX_lastStartedThatRequires_75 hl (k := 6) rfl (nI_i1 k) (by decide) rfl (fun ls hl => ?_)
              refine lv_goto (tgt := 14) hx hb dX_lastStartedThatRequires_78 (by decide) ?_
              exact ih14 (k + 1) o (by omega) (by simp [x_lastL, x_later, hq, c_33, c_41, c_53]) (by omega) _ _ hP hS ls (lv_sub hl [2, 3, 4, 5, 6, 0] rfl)
            · have c_53 := bI_ne0.mp c_53
              cases o with
              | none =>
                have hl : lv_has ls 7 [(6, .ref (ad (12 + k))), (0, .ref (ad 0)), (1, .ref (ad (12 + i))), (2, .null), (3, .ref (ad 1)), (4, .int 8), (5, .int (nI k))] := hl
                refine lv_aload_nN hx hb dX_lastStartedThatRequires_56 rfl (lv_at hl 3 rfl) ?_
                refine lv_ifnullN (tgt := 72) hx hb dX_lastStartedThatRequires_57 (by decide) ?_
                refine lv_aload hx hb dX_lastStartedThatRequires_72 (lv_at hl 0 rfl) ?_
                refine lv_astore_n (lv' := [(2, .ref (ad (12 + k))), (6, .ref (ad (12 + k))), (0, .ref (ad 0)), (1, .ref (ad (12 + i))), (3, .ref (ad 1)), (4, .int 8), (5, .int (nI k))]) hx hb dX_lastStartedThatRequires_74 rfl hl (by decide) rfl (fun ls hl => ?_)
                refine lv_iinc (v := nI (k + 1)) (lv' := [(5, .int (nI (k + 1))), (2, .ref (ad (12 + k))), (6, .ref (ad (12 + k))), (0, .ref (ad 0)), (1, .ref (ad (12 + i))), (3, .ref (ad 1)), (4, .int 8)]) hx hb dX_lastStartedThatRequires_75 hl (k := 6) rfl (nI_i1 k) (by decide) rfl (fun ls hl => ?_)
                refine lv_goto (tgt := 14) hx hb dX_lastStartedThatRequires_78 (by decide) ?_
                exact ih14 (k + 1) ((some k)) (by omega) (by simp [x_lastL, x_later, hq, c_33, c_41, c_53]) (by omega) _ _ hP hS ls (lv_sub hl [3, 4, 1, 5, 6, 0] rfl)
              | some b =>
                have hl : lv_has ls 7 [(6, .ref (ad (12 + k))), (0, .ref (ad 0)), (1, .ref (ad (12 + i))), (2, .ref (ad (12 + b))), (3, .ref (ad 1)), (4, .int 8), (5, .int (nI k))] := hl
                have hb8 : b < 8 := by have := (x_lastL_lt hq).1; omega
                refine lv_aload_n hx hb dX_lastStartedThatRequires_56 rfl (lv_at hl 3 rfl) ?_
                refine lv_ifnull hx hb dX_lastStartedThatRequires_57 ?_
                refine lv_aload hx hb dX_lastStartedThatRequires_60 (lv_at hl 0 rfl) ?_
                refine xP_get CX hP (by omega) 6 (by omega) wl_53 rfl dX_lastStartedThatRequires_62 ?_
                refine lv_aload_n hx hb dX_lastStartedThatRequires_65 rfl (lv_at hl 3 rfl) ?_
                refine xP_get CX hP (by omega) 6 (by omega) wl_53 rfl dX_lastStartedThatRequires_66 ?_
                refine lv_icmp_le (tgt := 75) hx hb dX_lastStartedThatRequires_69 (by decide) (fun c_69 => ?_) (fun c_69 => ?_)
                · skip
                  refine lv_iinc (v := nI (k + 1)) (lv' := [(5, .int (nI (k + 1))), (6, .ref (ad (12 + k))), (0, .ref (ad 0)), (1, .ref (ad (12 + i))), (2, .ref (ad (12 + b))), (3, .ref (ad 1)), (4, .int 8)]) hx hb dX_lastStartedThatRequires_75 hl (k := 6) rfl (nI_i1 k) (by decide) rfl (fun ls hl => ?_)
                  refine lv_goto (tgt := 14) hx hb dX_lastStartedThatRequires_78 (by decide) ?_
                  exact ih14 (k + 1) ((some b)) (by omega) (by simp [x_lastL, x_later, hq, c_33, c_41, c_53, c_69]) (by omega) _ _ hP hS ls (lv_sub hl [2, 3, 4, 5, 6, 0] rfl)
                · skip
                  refine lv_aload hx hb dX_lastStartedThatRequires_72 (lv_at hl 0 rfl) ?_
                  refine lv_astore_n (lv' := [(2, .ref (ad (12 + k))), (6, .ref (ad (12 + k))), (0, .ref (ad 0)), (1, .ref (ad (12 + i))), (3, .ref (ad 1)), (4, .int 8), (5, .int (nI k))]) hx hb dX_lastStartedThatRequires_74 rfl hl (by decide) rfl (fun ls hl => ?_)
                  refine lv_iinc (v := nI (k + 1)) (lv' := [(5, .int (nI (k + 1))), (2, .ref (ad (12 + k))), (6, .ref (ad (12 + k))), (0, .ref (ad 0)), (1, .ref (ad (12 + i))), (3, .ref (ad 1)), (4, .int 8)]) hx hb dX_lastStartedThatRequires_75 hl (k := 6) rfl (nI_i1 k) (by decide) rfl (fun ls hl => ?_)
                  refine lv_goto (tgt := 14) hx hb dX_lastStartedThatRequires_78 (by decide) ?_
                  exact ih14 (k + 1) ((some k)) (by omega) (by simp [x_lastL, x_later, hq, c_33, c_41, c_53, c_69]) (by omega) _ _ hP hS ls (lv_sub hl [3, 4, 1, 5, 6, 0] rfl)
  exact loop_14 ((8 - 0) + 1) 0 none (by omega) rfl (Nat.lt_succ_self _) _ _ hP hS ls (lv_sub hl [4, 5, 3, 2, 1, 0] rfl)
set_option maxRecDepth 100000 in
set_option maxHeartbeats 800000 in
theorem cX_stopThoseThatRequire (l : Launch) (D : va_G) (cA : Nat → ClassId) {ad : Nat → Nat} (hJ : kw_J 36 ad) (n : Nat) (hrec : ∀ m : Nat, m < n → ∀ (σ : XS) (k : Nat), k < 8 → cntA (xs σ 8 k 1) 8 ≤ m → kx_Met l yX_stopPlugin (.code yX_stopPlugin bX_stopPlugin 3 (Option.some .int) :: kw_T) (kw_R (2 * m + 4)) D (kx_tys cA) 36 ad (wX cA ad) σ [.ref (ad 0), .ref (ad (12 + k))] (fun r u => r = some (.int (x_stopP (m + 1) σ k).1) ∧ (x_stopP (m + 1) σ k).2 = u)) (σ : XS) (i : Nat) (hi : i < 8) (hf : ¬ σ.1 8 i = 0) (h0 : cntA σ 8 ≤ n) : kx_Met l yX_stopThoseThatRequire (.code yX_stopThoseThatRequire bX_stopThoseThatRequire 5 (Option.some .int) :: kw_T) (kw_R (2 * n + 3)) D (kx_tys cA) 36 ad (wX cA ad) σ [.ref (ad 0), .ref (ad (12 + i))] (fun r9 u9 => r9 = some (.int ((x_stopL (n + 1) σ i 0).1)) ∧ (x_stopL (n + 1) σ i 0).2 = u9) := by
  refine kx_of hJ (by decide +kernel) (Nat.le_of_ble_eq_true rfl) ?_
  intro p e s m args below meth c CX ls hl hP hS
  obtain ⟨hx, hb, hr, hml, hown, hts, hlk, hK, hJ1, hZ⟩ := id CX
  have hl : lv_has ls 5 [(0, .ref (ad 0)), (1, .ref (ad (12 + i)))] := hl
  refine lv_iconst (v := 0) hx hb dX_stopThoseThatRequire_0 (by decide) ?_
  refine lv_istore_n (lv' := [(2, .int 0), (0, .ref (ad 0)), (1, .ref (ad (12 + i)))]) hx hb dX_stopThoseThatRequire_1 rfl hl (by decide) rfl (fun ls hl => ?_)
  refine lv_iconst (v := 0) hx hb dX_stopThoseThatRequire_2 (by decide) ?_
  refine lv_istore_n (lv' := [(3, .int 0), (2, .int 0), (0, .ref (ad 0)), (1, .ref (ad (12 + i)))]) hx hb dX_stopThoseThatRequire_3 rfl hl (by decide) rfl (fun ls hl => ?_)
  have loop_4 : ∀ (fu : Nat) (j : Nat) (fm : Nat) (v : XS) (r : Int32), (j ≤ 8) → (cntA v 8 + j ≤ 7) → (cntA v 8 ≤ fm) → (fm ≤ n) → (x_stopL (n + 1) σ i 0 = x_stopL (fm + 1) v i r) → 8 - j < fu → ∀ (H : Heap) (locs : List Loc), va_P D classes (kw_W 36 ad (wX cA ad v)) H → va_S (kw_A 36 ad s.heap.size) s.heap H locs → ∀ (ls : Array Slot), lv_has ls 5 [(0, .ref (ad 0)), (1, .ref (ad (12 + i))), (2, .int r), (3, .int (nI j))] → W p l e (kw_R (2 * n + 3)) s m args below meth c H locs 0 0 (kx_Q below D 36 ad (wX cA ad) (fun r9 u9 => r9 = some (.int ((x_stopL (n + 1) σ i 0).1)) ∧ (x_stopL (n + 1) σ i 0).2 = u9) args s) (F0 m 4 ls []) := by
    intro fu4
    induction fu4 with
    | zero => intro j fm v r hj hcj hm2 hmn hq hm4; exact absurd hm4 (Nat.not_lt_zero _)
    | succ fu4 ih4 =>
      intro j fm v r hj hcj hm2 hmn hq hm4 H locs hP hS ls hl
      refine lv_iload_n hx hb dX_stopThoseThatRequire_4 rfl (lv_at hl 3 rfl) ?_
      refine lv_bipush (v := 8) hx hb dX_stopThoseThatRequire_5 (by decide) ?_
      refine lv_icmp_ge (tgt := 39) hx hb dX_stopThoseThatRequire_7 (by decide) (fun c_7 => ?_) (fun c_7 => ?_)
      · have c_7i := c_7
        have c_7 : 8 ≤ j := (nI_le' (a := 8) (b := j) (by omega) (by omega)).mp c_7
        exact absurd c_7 (by omega)
      · have c_7i := c_7
        have c_7 : ¬ (8 ≤ j) := fun hq9 => c_7 ((nI_le' (a := 8) (b := j) (by omega) (by omega)).mpr hq9)
        refine lv_aload_n hx hb dX_stopThoseThatRequire_10 rfl (lv_at hl 0 rfl) ?_
        refine lv_aload_n hx hb dX_stopThoseThatRequire_11 rfl (lv_at hl 1 rfl) ?_
        refine kx_callV1 (σ1 := v) (v := va_rf ((x_last v i).map (fun b => ad (12 + b)))) (n := 1) (As := [.ref (ad (12 + i))]) (rest := []) CX hP hS hl.1 (cX_lastStartedThatRequires l D cA hJ v i (by omega)) wl_226 wl_228 wp_7 wl_1 wl_229 ⟨rfl, by decide +kernel, by decide +kernel, by decide +kernel⟩ (kw_R_ok (by omega) (by omega)) ⟨rfl, rfl⟩ (k := 0) (by omega) rfl rfl rfl rfl rfl (Nat.le_of_ble_eq_true rfl) dX_stopThoseThatRequire_12 (fun H locs hP hS => ?_)
        have hlt : ∀ b, x_last v i = some b → b < 8 ∧ v.1 1 b = 2 ∧ v.1 8 b = 0 := fun b h => x_lastL_lt h
        cases hq2 : x_last v i with
        | none =>
          refine W.eq (g2 := F0 m 15 ls [.null]) rfl ?_
          refine lv_astoreN (lv' := [(4, .null), (0, .ref (ad 0)), (1, .ref (ad (12 + i))), (2, .int r), (3, .int (nI j))]) hx hb dX_stopThoseThatRequire_15 hl (by decide) rfl (fun ls hl => ?_)
          refine lv_aloadN hx hb dX_stopThoseThatRequire_17 (lv_at hl 0 rfl) ?_
          refine lv_ifnonnullN hx hb dX_stopThoseThatRequire_19 ?_
          refine lv_iload_n hx hb dX_stopThoseThatRequire_22 rfl (lv_at hl 3 rfl) ?_
          exact kx_iret (σ' := v) CX hP hS dX_stopThoseThatRequire_23 (by rw [hq, x_stopL_n hq2]; exact ⟨rfl, rfl⟩)
        | some b =>
          obtain ⟨hb8, hb2⟩ := hlt b hq2
          obtain ⟨m2, rfl⟩ : ∃ m2, fm = m2 + 1 := ⟨fm - 1, by have := cntA_flag hb8 hb2; omega⟩
          have hbf := cntA_flag hb8 hb2
          refine W.eq (g2 := F0 m 15 ls [.ref (ad (12 + b))]) rfl ?_
          refine lv_astore (lv' := [(4, .ref (ad (12 + b))), (0, .ref (ad 0)), (1, .ref (ad (12 + i))), (2, .int r), (3, .int (nI j))]) hx hb dX_stopThoseThatRequire_15 hl (by decide) rfl (fun ls hl => ?_)
          refine lv_aload hx hb dX_stopThoseThatRequire_17 (lv_at hl 0 rfl) ?_
          refine lv_ifnonnull (tgt := 24) hx hb dX_stopThoseThatRequire_19 (by decide) ?_
          refine lv_iload_n hx hb dX_stopThoseThatRequire_24 rfl (lv_at hl 3 rfl) ?_
          refine lv_aload_n hx hb dX_stopThoseThatRequire_25 rfl (lv_at hl 1 rfl) ?_
          refine lv_aload hx hb dX_stopThoseThatRequire_26 (lv_at hl 0 rfl) ?_
          refine kx_callV1 (σ1 := (x_stopP (m2 + 1) v b).2) (v := .int ((x_stopP (m2 + 1) v b).1)) (n := 1) (As := [.ref (ad (12 + b))]) (rest := [.int r]) CX hP hS hl.1 (hrec m2 (by omega) v b hb8 (by omega)) wl_218 wl_220 wp_5 wl_1 wl_221 ⟨rfl, by decide +kernel, by decide +kernel, by decide +kernel⟩ (kw_R_ok (by omega) (by omega)) ⟨rfl, rfl⟩ (k := 0) (by omega) rfl rfl rfl rfl rfl (Nat.le_of_ble_eq_true rfl) dX_stopThoseThatRequire_28 (fun H locs hP hS => ?_)
          refine lv_iadd hx hb dX_stopThoseThatRequire_31 ?_
          refine lv_istore_n (lv' := [(2, .int (r + ((x_stopP (m2 + 1) v b).1))), (4, .ref (ad (12 + b))), (0, .ref (ad 0)), (1, .ref (ad (12 + i))), (3, .int (nI j))]) hx hb dX_stopThoseThatRequire_32 rfl hl (by decide) rfl (fun ls hl => ?_)
          refine lv_iinc (v := nI (j + 1)) (lv' := [(3, .int (nI (j + 1))), (2, .int (r + ((x_stopP (m2 + 1) v b).1))), (4, .ref (ad (12 + b))), (0, .ref (ad 0)), (1, .ref (ad (12 + i)))]) hx hb dX_stopThoseThatRequire_33 hl (k := 4) rfl (nI_i1 j) (by decide) rfl (fun ls hl => ?_)
          refine lv_goto (tgt := 4) hx hb dX_stopThoseThatRequire_36 (by decide) ?_
          exact ih4 (j + 1) m2 ((x_stopP (m2 + 1) v b).2) (r + ((x_stopP (m2 + 1) v b).1)) (by omega) (by have := cntA_stop (n := m2 + 1) hb8 hb2; omega) (by have := cntA_stop (n := m2 + 1) hb8 hb2; omega) (by omega) (by rw [hq, x_stopL_s hq2]) (by omega) _ _ hP hS ls (lv_sub hl [3, 4, 1, 0] rfl)
  exact loop_4 ((8 - 0) + 1) 0 n σ 0 (by omega) (by have := cntA_lt (σ := σ) (p := i) (fun h => hf h.2) 8 hi; omega) h0 (by omega) rfl (Nat.lt_succ_self _) _ _ hP hS ls (lv_sub hl [2, 3, 1, 0] rfl)
set_option maxRecDepth 100000 in
set_option maxHeartbeats 800000 in
theorem cX_stopPlugin_s (l : Launch) (D : va_G) (cA : Nat → ClassId) {ad : Nat → Nat} (hJ : kw_J 36 ad) (n : Nat) (hL : ∀ (σ : XS) (k : Nat), k < 8 → ¬ σ.1 8 k = 0 → cntA σ 8 ≤ n → kx_Met l yX_stopThoseThatRequire (.code yX_stopThoseThatRequire bX_stopThoseThatRequire 5 (Option.some .int) :: kw_T) (kw_R (2 * n + 3)) D (kx_tys cA) 36 ad (wX cA ad) σ [.ref (ad 0), .ref (ad (12 + k))] (fun r u => r = some (.int (x_stopL (n + 1) σ k 0).1) ∧ (x_stopL (n + 1) σ k 0).2 = u)) (σ : XS) (i : Nat) (hi : i < 8) (h0 : cntA (xs σ 8 i 1) 8 ≤ n) : kx_Met l yX_stopPlugin (.code yX_stopPlugin bX_stopPlugin 3 (Option.some .int) :: kw_T) (kw_R (2 * n + 4)) D (kx_tys cA) 36 ad (wX cA ad) σ [.ref (ad 0), .ref (ad (12 + i))] (fun r9 u9 => r9 = some (.int ((x_stopP (n + 1) σ i).1)) ∧ (x_stopP (n + 1) σ i).2 = u9) := by
  refine kx_of hJ (by decide +kernel) (Nat.le_of_ble_eq_true rfl) ?_
  intro p e s m args below meth c CX ls hl hP hS
  obtain ⟨hx, hb, hr, hml, hown, hts, hlk, hK, hJ1, hZ⟩ := id CX
  have hl : lv_has ls 3 [(0, .ref (ad 0)), (1, .ref (ad (12 + i)))] := hl
  refine lv_aload_n hx hb dX_stopPlugin_0 rfl (lv_at hl 1 rfl) ?_
  refine lv_iconst (v := 1) hx hb dX_stopPlugin_1 (by decide) ?_
  refine xP_put CX hP hS (by omega) 8 (by omega) (by omega) wl_55 ⟨rfl, rfl⟩ dX_stopPlugin_2 (fun H locs hP hS => ?_)
  refine lv_aload_n hx hb dX_stopPlugin_5 rfl (lv_at hl 0 rfl) ?_
  refine lv_aload_n hx hb dX_stopPlugin_6 rfl (lv_at hl 1 rfl) ?_
  refine kx_callV1 (σ1 := (x_stopL (n + 1) (xs σ 8 i 1) i 0).2) (v := .int ((x_stopL (n + 1) (xs σ 8 i 1) i 0).1)) (n := 1) (As := [.ref (ad (12 + i))]) (rest := []) CX hP hS hl.1 (hL (xs σ 8 i 1) i (by omega) (by rw [xs_u, upd_at, if_pos rfl]; decide) h0) wl_222 wl_224 wp_6 wl_1 wl_225 ⟨rfl, by decide +kernel, by decide +kernel, by decide +kernel⟩ (kw_R_ok (by omega) (by omega)) ⟨rfl, rfl⟩ (k := 0) (by omega) rfl rfl rfl rfl rfl (Nat.le_of_ble_eq_true rfl) dX_stopPlugin_7 (fun H locs hP hS => ?_)
  refine lv_istore_n (lv' := [(2, .int ((x_stopL (n + 1) (xs σ 8 i 1) i 0).1)), (0, .ref (ad 0)), (1, .ref (ad (12 + i)))]) hx hb dX_stopPlugin_10 rfl hl (by decide) rfl (fun ls hl => ?_)
  refine lv_aload_n hx hb dX_stopPlugin_11 rfl (lv_at hl 2 rfl) ?_
  refine lv_iconst (v := 0) hx hb dX_stopPlugin_12 (by decide) ?_
  refine xP_put CX hP hS (by omega) 8 (by omega) (by omega) wl_55 ⟨rfl, rfl⟩ dX_stopPlugin_13 (fun H locs hP hS => ?_)
  refine lv_aload_n hx hb dX_stopPlugin_16 rfl (lv_at hl 2 rfl) ?_
  refine lv_iconst (v := 1) hx hb dX_stopPlugin_17 (by decide) ?_
  refine xP_put CX hP hS (by omega) 1 (by omega) (by omega) wl_44 ⟨rfl, rfl⟩ dX_stopPlugin_18 (fun H locs hP hS => ?_)
  refine lv_aload_n hx hb dX_stopPlugin_21 rfl (lv_at hl 1 rfl) ?_
  refine xX_get CX hP 3 (by omega) wl_114 rfl dX_stopPlugin_22 ?_
  refine lv_bipush (v := 20) hx hb dX_stopPlugin_25 (by decide) ?_
  refine lv_aload_n hx hb dX_stopPlugin_27 rfl (lv_at hl 2 rfl) ?_
  refine xP_get CX hP (by omega) 0 (by omega) wl_43 rfl dX_stopPlugin_28 ?_
  refine lv_iadd hx hb dX_stopPlugin_31 ?_
  refine kx_topi (v' := nI (20 + i)) (nI_add 20 i) ?_
  refine kx_callV0 (σ1 := hnote (xs (xs ((x_stopL (n + 1) (xs σ 8 i 1) i 0).2) 8 i 0) 1 i 1) 0 (nI (20 + i))) (n := 1) (As := [.int (nI (20 + i))]) (rest := []) CX hP hS hl.1 (cH_note l D cA hJ (xs (xs ((x_stopL (n + 1) (xs σ 8 i 1) i 0).2) 8 i 0) 1 i 1) 0 (by omega) (nI (20 + i))) wl_210 wl_211 wl_212 wl_2 wl_213 ⟨rfl, by decide +kernel, by decide +kernel, by decide +kernel⟩ (kw_R_ok (by omega) (by omega)) ⟨rfl, rfl⟩ (k := 4 + 0) (by omega) (wX_aH (by omega)) rfl rfl rfl rfl (Nat.le_of_ble_eq_true rfl) dX_stopPlugin_32 (fun H locs hP hS => ?_)
  refine lv_iload_n hx hb dX_stopPlugin_35 rfl (lv_at hl 0 rfl) ?_
  refine lv_iconst (v := 1) hx hb dX_stopPlugin_36 (by decide) ?_
  refine lv_iadd hx hb dX_stopPlugin_37 ?_
  exact kx_iret (σ' := hnote (xs (xs ((x_stopL (n + 1) (xs σ 8 i 1) i 0).2) 8 i 0) 1 i 1) 0 (nI (20 + i))) CX hP hS dX_stopPlugin_38 (⟨rfl, rfl⟩)
theorem cX_stopPlugin (l : Launch) (D : va_G) (cA : Nat → ClassId) {ad : Nat → Nat} (hJ : kw_J 36 ad) : ∀ (n : Nat) (σ : XS) (i : Nat), i < 8 → cntA (xs σ 8 i 1) 8 ≤ n → kx_Met l yX_stopPlugin (.code yX_stopPlugin bX_stopPlugin 3 (Option.some .int) :: kw_T) (kw_R (2 * n + 4)) D (kx_tys cA) 36 ad (wX cA ad) σ [.ref (ad 0), .ref (ad (12 + i))] (fun r u => r = some (.int (x_stopP (n + 1) σ i).1) ∧ (x_stopP (n + 1) σ i).2 = u) := by
  intro n
  induction n using Nat.strongRecOn with
  | _ n ih => intro σ i hi h0; exact cX_stopPlugin_s l D cA hJ n (fun σ' k hk hf h1 => cX_stopThoseThatRequire l D cA hJ n ih σ' k hk hf h1) σ i hi h0
set_option maxRecDepth 100000 in
set_option maxHeartbeats 800000 in
theorem cX_stop (l : Launch) (D : va_G) (cA : Nat → ClassId) {ad : Nat → Nat} (hJ : kw_J 36 ad) (σ : XS) (x1 : Int32) : kx_Met l yX_stop (.code yX_stop bX_stop 2 (Option.some .int) :: kw_T) (kw_R 21) D (kx_tys cA) 36 ad (wX cA ad) σ [.ref (ad 0), .int x1] (fun r9 u9 => r9 = some (.int ((x_stop σ x1).1)) ∧ (x_stop σ x1).2 = u9) := by
  refine kx_of hJ (by decide +kernel) (Nat.le_of_ble_eq_true rfl) ?_
  intro p e s m args below meth c CX ls hl hP hS
  obtain ⟨hx, hb, hr, hml, hown, hts, hlk, hK, hJ1, hZ⟩ := id CX
  have hl : lv_has ls 2 [(0, .ref (ad 0)), (1, .int x1)] := hl
  refine lv_iload_n hx hb dX_stop_0 rfl (lv_at hl 1 rfl) ?_
  refine kx_callS1 (σ1 := σ) (v := .int (bI (in8 x1 = true))) (n := 1) (As := [.int x1]) (rest := []) CX hP hS hl.1 (cX_isPlugin l D cA hJ σ x1) wl_143 wl_144 wl_1 wl_145 ⟨by decide +kernel, by decide +kernel, by decide +kernel⟩ (kw_R_ok (by omega) (by omega)) ⟨rfl, rfl⟩ rfl rfl (Nat.le_of_ble_eq_true rfl) dX_stop_1 (fun H locs hP hS => ?_)
  refine lv_if_eq (tgt := 20) hx hb dX_stop_4 (by decide) (fun c_4 => ?_) (fun c_4 => ?_)
  · have c_4 := bI_eq0.mp c_4
    refine lv_iconst (v := (-1)) hx hb dX_stop_20 (by decide) ?_
    exact kx_iret (σ' := σ) CX hP hS dX_stop_21 (by constructor <;> simp [bI, c_4, x_stop])
  · have c_4 := bI_ne0.mp c_4
    obtain ⟨j, hj, rfl⟩ := in8_of c_4
    have ej : pn (nI j) = j := pn_nI (by omega)
    refine lv_aload_n hx hb dX_stop_7 rfl (lv_at hl 0 rfl) ?_
    refine xX_get CX hP 0 (by omega) wl_111 rfl dX_stop_8 ?_
    refine lv_iload_n hx hb dX_stop_11 rfl (lv_at hl 1 rfl) ?_
    refine xA_P CX hP j (rfl) (by omega) dX_stop_12 ?_
    refine xP_get CX hP (by omega) 1 (by omega) wl_44 rfl dX_stop_13 ?_
    refine lv_iconst (v := 2) hx hb dX_stop_16 (by decide) ?_
    refine lv_icmp_eq (tgt := 22) hx hb dX_stop_17 (by decide) (fun c_17 => ?_) (fun c_17 => ?_)
    · skip
      refine lv_aload_n hx hb dX_stop_22 rfl (lv_at hl 0 rfl) ?_
      refine lv_aload_n hx hb dX_stop_23 rfl (lv_at hl 0 rfl) ?_
      refine xX_get CX hP 0 (by omega) wl_111 rfl dX_stop_24 ?_
      refine lv_iload_n hx hb dX_stop_27 rfl (lv_at hl 1 rfl) ?_
      refine xA_P CX hP j (rfl) (by omega) dX_stop_28 ?_
      refine kx_callV1 (σ1 := (x_stopP 9 σ j).2) (v := .int ((x_stopP 9 σ j).1)) (n := 1) (As := [.ref (ad (12 + j))]) (rest := []) CX hP hS hl.1 (cX_stopPlugin l D cA hJ 8 σ j (by omega) (cntA_le _ _)) wl_218 wl_220 wp_5 wl_1 wl_221 ⟨rfl, by decide +kernel, by decide +kernel, by decide +kernel⟩ (kw_R_ok (by omega) (by omega)) ⟨rfl, rfl⟩ (k := 0) (by omega) rfl rfl rfl rfl rfl (Nat.le_of_ble_eq_true rfl) dX_stop_29 (fun H locs hP hS => ?_)
      exact kx_iret (σ' := (x_stopP 9 σ j).2) CX hP hS dX_stop_32 (by constructor <;> simp [bI, c_4, ej, c_17, x_stop])
    · skip
      refine lv_iconst (v := (-1)) hx hb dX_stop_20 (by decide) ?_
      exact kx_iret (σ' := σ) CX hP hS dX_stop_21 (by constructor <;> simp [bI, c_4, ej, c_17, x_stop])
