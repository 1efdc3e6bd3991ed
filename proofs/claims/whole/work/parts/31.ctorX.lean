/-- the class's raw state at first -/
def σ0 : XS := (fun _ _ => 0, fun k => k)
def wS (cA : Nat → ClassId) (ad : Nat → Nat) (i j j3 : Nat) (k : Nat) : va_E :=
  if k = 1 then .inl (cA 3, (8, .inr (.inr (.inr (.inr (plA 12 i (fun i => i) ad)))))) else if k = 2 then .inl (cA 4, (16, .inr (.inr (.inr (.inr (plA 20 j (fun i => i) ad)))))) else if k = 3 then .inl (cA 4, (16, .inr (.inr (.inr (.inr (plA 20 j3 (fun i => i) ad)))))) else wX cA ad σ0 k
theorem plA0 {b : Nat} {g ad : Nat → Nat} : plA b 0 g ad = fun _ => none := by
  funext i; simp [plA]
theorem plA_up {b n q : Nat} {ad ad' : Nat → Nat} (h1 : ∀ i, i < n → ad' (b + i) = ad (b + i)) (h2 : ad' (b + n) = q) : plA b (n + 1) (fun i => i) ad' = va_up (plA b n (fun i => i) ad) n (some q) := by
  funext i
  simp only [plA, va_up]
  by_cases e : i = n
  · subst e; simp [h2]
  · by_cases hi : i < n
    · simp [e, hi, show i < n + 1 by omega, h1 i hi]
    · simp [e, hi, show ¬ i < n + 1 by omega]
theorem plA_same {b n : Nat} {ad ad' : Nat → Nat} (h1 : ∀ i, i < n → ad' (b + i) = ad (b + i)) : plA b n (fun i => i) ad' = plA b n (fun i => i) ad := by
  funext i
  simp only [plA]
  by_cases hi : i < n
  · simp [hi, h1 i hi]
  · simp [hi]
theorem wX_ad {cA : Nat → ClassId} {ad ad' : Nat → Nat} {σ : XS} {k : Nat} (h : ∀ j, j < 12 → ad' j = ad j) (hk : k < 36) (h1 : k ≠ 1) (h2 : k ≠ 2) (h3 : k ≠ 3) : wX cA ad' σ k = wX cA ad σ k := by
  rcases (show k = 0 ∨ (4 ≤ k ∧ k < 8) ∨ (8 ≤ k ∧ k < 12) ∨ (12 ≤ k ∧ k < 20) ∨ (20 ≤ k ∧ k < 36) by omega) with rfl | g | g | g | g
  · simp [wX, wX_top, wX_X, h 1 (by omega), h 2 (by omega), h 3 (by omega), h 4 (by omega), h 5 (by omega), h 6 (by omega), h 7 (by omega)]
  · obtain ⟨j, rfl⟩ : ∃ j, k = 4 + j := ⟨k - 4, by omega⟩
    rw [wX_aH (by omega), wX_aH (by omega)]
    simp [wX_H, h (8 + j) (by omega)]
  · obtain ⟨j, rfl⟩ : ∃ j, k = 8 + j := ⟨k - 8, by omega⟩
    rw [wX_aR (by omega), wX_aR (by omega)]
  · obtain ⟨j, rfl⟩ : ∃ j, k = 12 + j := ⟨k - 12, by omega⟩
    rw [wX_aP (by omega), wX_aP (by omega)]
  · obtain ⟨j, rfl⟩ : ∃ j, k = 20 + j := ⟨k - 20, by omega⟩
    rw [wX_aE, wX_aE]
def z9 : List Value := [.int 0, .int 0, .int 0, .int 0, .int 0, .int 0, .int 0, .int 0, .int 0]
def z9E : List Value := [.int 0, .int 0, .int 0, .int 0, .int 0, .int 0, .double 0, .int 0, .int 0]
theorem d8_0 : d8 0 = 0 := by decide +kernel
/-- one plugin more -/
theorem wS_P {cA : Nat → ClassId} {ad : Nat → Nat} {i q : Nat} (hi : i < 8) : wS cA (va_up ad (12 + i) q) (i + 1) 0 0 1 = .inl (cA 3, (8, .inr (.inr (.inr (.inr (va_up (plA 12 i (fun i => i) ad) i (some q))))))) ∧
    ∀ k, k < 12 + i + 1 → k ≠ 1 → wS cA (va_up ad (12 + i) q) (i + 1) 0 0 k = upE (upE (wS cA ad i 0 0) (12 + i) (.inr (2, z9))) (12 + i) (.inr (2, z9.set 0 (.int (nI i)))) k := by
  refine ⟨?_, fun k hk h1 => ?_⟩
  · simp only [wS, if_true]
    rw [plA_up (ad := ad) (q := q) (fun j hj => va_up_ne _ _ (by omega)) (va_up_self _ _ _)]
  · by_cases e : k = 12 + i
    · subst e
      simp only [wS, upE, if_true]
      rw [if_neg (by omega), if_neg (by omega), if_neg (by omega), wX_aP hi]
      rfl
    · simp only [upE, if_neg e, wS, if_neg h1, plA0]
      by_cases h2 : k = 2
      · simp [h2]
      · by_cases h3 : k = 3
        · simp [h3]
        · simp only [if_neg h2, if_neg h3]
          exact wX_ad (fun j hj => va_up_ne _ _ (by omega)) (by omega) h1 h2 h3
/-- one extension more, in its own array and then in the order -/
theorem wS_E {cA : Nat → ClassId} {ad : Nat → Nat} {i q : Nat} (hi : i < 16) : wS cA (va_up ad (20 + i) q) 8 (i + 1) i 2 = .inl (cA 4, (16, .inr (.inr (.inr (.inr (va_up (plA 20 i (fun i => i) ad) i (some q))))))) ∧
    ∀ k, k < 20 + i + 1 → k ≠ 2 → wS cA (va_up ad (20 + i) q) 8 (i + 1) i k = upE (upE (wS cA ad 8 i i) (20 + i) (.inr (0, z9E))) (20 + i) (.inr (0, z9E.set 0 (.int (nI i)))) k := by
  refine ⟨?_, fun k hk h2 => ?_⟩
  · simp only [wS, if_true]
    rw [if_neg (by omega), plA_up (ad := ad) (q := q) (fun j hj => va_up_ne _ _ (by omega)) (va_up_self _ _ _)]
  · by_cases e : k = 20 + i
    · subst e
      simp only [wS, upE, if_true]
      rw [if_neg (by omega), if_neg (by omega), if_neg (by omega), wX_aE]
      simp [wX_E, z9E, σ0, d8_0]
    · simp only [upE, if_neg e, wS, if_neg h2]
      by_cases h1 : k = 1
      · simp only [h1, if_true]
        rw [plA_same (ad := ad) (fun j hj => va_up_ne _ _ (by omega))]
      · by_cases h3 : k = 3
        · subst h3
          rw [if_neg (by omega), if_pos (by trivial), if_neg (by omega), if_pos (by trivial)]
          rw [plA_same (ad := ad) (fun j hj => va_up_ne _ _ (by omega))]
        · simp only [if_neg h1, if_neg h3]
          exact wX_ad (fun j hj => va_up_ne _ _ (by omega)) (by omega) h1 h2 h3
theorem wS_O {cA : Nat → ClassId} {ad : Nat → Nat} {i : Nat} : wS cA ad 8 (i + 1) (i + 1) 3 = .inl (cA 4, (16, .inr (.inr (.inr (.inr (va_up (plA 20 i (fun i => i) ad) i (some (ad (20 + i))))))))) ∧
    ∀ k, k ≠ 3 → wS cA ad 8 (i + 1) (i + 1) k = wS cA ad 8 (i + 1) i k := by
  refine ⟨?_, fun k h3 => ?_⟩
  · simp only [wS]
    rw [if_neg (by omega), if_neg (by omega), if_pos (by trivial), plA_up (ad := ad) (q := ad (20 + i)) (fun _ _ => rfl) rfl]
  · simp only [wS, if_neg h3]
theorem wS_end {cA : Nat → ClassId} {ad : Nat → Nat} : wS cA ad 8 16 16 = wX cA ad σ0 := by
  funext k
  simp only [wS]
  by_cases h1 : k = 1
  · subst h1; rfl
  · by_cases h2 : k = 2
    · subst h2; rfl
    · by_cases h3 : k = 3
      · subst h3; rfl
      · simp [h1, h2, h3]
set_option maxRecDepth 100000 in
set_option maxHeartbeats 1600000 in
theorem cX_init (l : Launch) (D : va_G) (cA : Nat → ClassId) (h0 : Nat) (sz : Nat) : Met l yX_init (.code yX_init bX_init 2 none :: kw_T) ({ frames := 2, cells := 35, slots := 332, locals := 100 }) (va_Pc [.ref h0] (fun U => U.heap.size = sz ∧ va_P D classes [(h0, .inr (3, [.null, .null, .null, .null, .null, .null, .null, .int 0, .int 0]))] U.heap ∧ va_K D classes (kx_tys cA) U ∧ va_AO RP U ∧ va_AO RE U ∧ kx_Z (va_A [(h0, .inr (3, [.null, .null, .null, .null, .null, .null, .null, .int 0, .int 0]))] sz) U U.heap)) (va_Qv (fun ad : Nat → Nat => ad 0 = h0) (fun ad t => va_P D classes (kw_W 36 ad (wX cA ad σ0)) t.heap ∧ va_D (va_A [(h0, .inr (3, [.null, .null, .null, .null, .null, .null, .null, .int 0, .int 0]))] sz) (kw_W 36 ad (wX cA ad σ0))) (va_A [(h0, .inr (3, [.null, .null, .null, .null, .null, .null, .null, .int 0, .int 0]))] sz)) 35 332 (va_A [(h0, .inr (3, [.null, .null, .null, .null, .null, .null, .null, .int 0, .int 0]))] sz) := by
  refine Met.ofW (cc := bX_init) (maxL := 2) (ret := none) (by decide +kernel) rfl ?_
  intro p e s m args below meth c s₁ B hml hv
  obtain ⟨rfl, hsz, hP, hK, hAOP, hAOE, hZ⟩ := hv
  have hx := B.exec
  have hb := B.bytes
  have hr := B.returns
  have hts0 := atoms_spec (ws := .code yX_init bX_init 2 none :: kw_T) B.pre
  have hts : ∀ w ∈ kw_T, w.before _ s = true := fun w hw => hts0 w (List.mem_cons_of_mem _ hw)
  have hown : s.vm.findClass yX_init.cls = some m.cls := findClass_of_methodNamed B.named
  have hlocks := B.notSynchronized
  have hin : meth.name = "<init>" := (name_of_methodNamed B.named B.method).1
  subst hsz
  have hD := (kn_D1 (a := h0) (e := .inr (3, [.null, .null, .null, .null, .null, .null, .null, .int 0, .int 0]))).self (sz := s.heap.size)
  generalize hAe : va_A [(h0, .inr (3, [.null, .null, .null, .null, .null, .null, .null, .int 0, .int 0]))] s.heap.size = A at hD hZ ⊢
  have hA : ∀ q : Nat, s.heap.size ≤ q → A q := fun q h => by rw [← hAe]; exact Or.inr h
  have hS : va_S A s.heap s.heap [] := va_S.rf
  have hl := lv_entry [.ref h0] (n := 2) (Nat.le_of_ble_eq_true rfl)
  rw [lg_entry_eq]
  generalize (lg_sl [.ref h0] ++ List.replicate (2 - (lg_sl [.ref h0]).length) Slot.unset).toArray = ls at hl ⊢
  have hl : lv_has ls 2 [(0, .ref h0)] := hl
  refine lv_aload_n hx hb dX_init_0 rfl (lv_at hl 0 rfl) ?_
  refine W.objInit hx hb hown (hts _ wl_12) (hts _ wl_13) (hts _ wl_14) rfl (by rw [hml]; exact hl.1) rfl dX_init_1 (Nat.le_of_ble_eq_true rfl) (Nat.le_of_ble_eq_true rfl) ?_
  refine W.eq (g2 := F0 m 4 ls []) rfl ?_
  refine lv_aload_n hx hb dX_init_4 rfl (lv_at hl 0 rfl) ?_
  refine lv_bipush (v := 8) hx hb dX_init_5 (by decide) ?_
  refine va_newq (C := RP) (N' := 8) hx hb hown (hts _ wl_15) hAOP hK hP hD hS hA (by decide) (by decide) (by decide) (Nat.le_of_ble_eq_true rfl) (Nat.le_of_ble_eq_true rfl) dX_init_7 (fun q1 cq H hK3 hP hD hS => ?_)
  obtain rfl : cq = cA 3 := kn_cA (i := 3) (j := 5) hK hK3 rfl rfl
  have hP : va_P D classes [(h0, .inr (3, [.null, .null, .null, .null, .null, .null, .null, .int 0, .int 0])), (q1, .inl (cA 3, (8, .inr (.inr (.inr (.inr (fun _ => none)))))))] H := hP
  have hD : va_D A [(h0, .inr (3, [.null, .null, .null, .null, .null, .null, .null, .int 0, .int 0])), (q1, .inl (cA 3, (8, .inr (.inr (.inr (.inr (fun _ => none)))))))] := hD
  refine va_putF (D := D) (ci := 3) (v := .ref q1) (C := RX) (T := FX) (N := 9) hx hb hts inX tX tX_ok nX hown hK hP hD hS 0 rfl rfl 0 (by decide) (hts _ wl_111) (fun _ h9 => h9) rfl hin rfl (tX_ok 0 (by decide)) rfl rfl (Nat.le_of_ble_eq_true rfl) dX_init_10 (fun H locs hP hD hS => ?_)
  have hP : va_P D classes [(h0, .inr (3, [.ref q1, .null, .null, .null, .null, .null, .null, .int 0, .int 0])), (q1, .inl (cA 3, (8, .inr (.inr (.inr (.inr (fun _ => none)))))))] H := hP
  have hD : va_D A [(h0, .inr (3, [.ref q1, .null, .null, .null, .null, .null, .null, .int 0, .int 0])), (q1, .inl (cA 3, (8, .inr (.inr (.inr (.inr (fun _ => none)))))))] := hD
  refine lv_aload_n hx hb dX_init_13 rfl (lv_at hl 0 rfl) ?_
  refine lv_bipush (v := 16) hx hb dX_init_14 (by decide) ?_
  refine va_newq (C := RE) (N' := 16) hx hb hown (hts _ wl_17) hAOE hK hP hD hS hA (by decide) (by decide) (by decide) (Nat.le_of_ble_eq_true rfl) (Nat.le_of_ble_eq_true rfl) dX_init_16 (fun q2 cq H hK3 hP hD hS => ?_)
  obtain rfl : cq = cA 4 := kn_cA (i := 4) (j := 5) hK hK3 rfl rfl
  have hP : va_P D classes [(h0, .inr (3, [.ref q1, .null, .null, .null, .null, .null, .null, .int 0, .int 0])), (q1, .inl (cA 3, (8, .inr (.inr (.inr (.inr (fun _ => none))))))), (q2, .inl (cA 4, (16, .inr (.inr (.inr (.inr (fun _ => none)))))))] H := hP
  have hD : va_D A [(h0, .inr (3, [.ref q1, .null, .null, .null, .null, .null, .null, .int 0, .int 0])), (q1, .inl (cA 3, (8, .inr (.inr (.inr (.inr (fun _ => none))))))), (q2, .inl (cA 4, (16, .inr (.inr (.inr (.inr (fun _ => none)))))))] := hD
  refine va_putF (D := D) (ci := 3) (v := .ref q2) (C := RX) (T := FX) (N := 9) hx hb hts inX tX tX_ok nX hown hK hP hD hS 0 rfl rfl 1 (by decide) (hts _ wl_112) (fun _ h9 => h9) rfl hin rfl (tX_ok 1 (by decide)) rfl rfl (Nat.le_of_ble_eq_true rfl) dX_init_19 (fun H locs hP hD hS => ?_)
  have hP : va_P D classes [(h0, .inr (3, [.ref q1, .ref q2, .null, .null, .null, .null, .null, .int 0, .int 0])), (q1, .inl (cA 3, (8, .inr (.inr (.inr (.inr (fun _ => none))))))), (q2, .inl (cA 4, (16, .inr (.inr (.inr (.inr (fun _ => none)))))))] H := hP
  have hD : va_D A [(h0, .inr (3, [.ref q1, .ref q2, .null, .null, .null, .null, .null, .int 0, .int 0])), (q1, .inl (cA 3, (8, .inr (.inr (.inr (.inr (fun _ => none))))))), (q2, .inl (cA 4, (16, .inr (.inr (.inr (.inr (fun _ => none)))))))] := hD
  refine lv_aload_n hx hb dX_init_22 rfl (lv_at hl 0 rfl) ?_
  refine lv_bipush (v := 16) hx hb dX_init_23 (by decide) ?_
  refine va_newq (C := RE) (N' := 16) hx hb hown (hts _ wl_17) hAOE hK hP hD hS hA (by decide) (by decide) (by decide) (Nat.le_of_ble_eq_true rfl) (Nat.le_of_ble_eq_true rfl) dX_init_25 (fun q3 cq H hK3 hP hD hS => ?_)
  obtain rfl : cq = cA 4 := kn_cA (i := 4) (j := 5) hK hK3 rfl rfl
  have hP : va_P D classes [(h0, .inr (3, [.ref q1, .ref q2, .null, .null, .null, .null, .null, .int 0, .int 0])), (q1, .inl (cA 3, (8, .inr (.inr (.inr (.inr (fun _ => none))))))), (q2, .inl (cA 4, (16, .inr (.inr (.inr (.inr (fun _ => none))))))), (q3, .inl (cA 4, (16, .inr (.inr (.inr (.inr (fun _ => none)))))))] H := hP
  have hD : va_D A [(h0, .inr (3, [.ref q1, .ref q2, .null, .null, .null, .null, .null, .int 0, .int 0])), (q1, .inl (cA 3, (8, .inr (.inr (.inr (.inr (fun _ => none))))))), (q2, .inl (cA 4, (16, .inr (.inr (.inr (.inr (fun _ => none))))))), (q3, .inl (cA 4, (16, .inr (.inr (.inr (.inr (fun _ => none)))))))] := hD
  refine va_putF (D := D) (ci := 3) (v := .ref q3) (C := RX) (T := FX) (N := 9) hx hb hts inX tX tX_ok nX hown hK hP hD hS 0 rfl rfl 2 (by decide) (hts _ wl_113) (fun _ h9 => h9) rfl hin rfl (tX_ok 2 (by decide)) rfl rfl (Nat.le_of_ble_eq_true rfl) dX_init_28 (fun H locs hP hD hS => ?_)
  have hP : va_P D classes [(h0, .inr (3, [.ref q1, .ref q2, .ref q3, .null, .null, .null, .null, .int 0, .int 0])), (q1, .inl (cA 3, (8, .inr (.inr (.inr (.inr (fun _ => none))))))), (q2, .inl (cA 4, (16, .inr (.inr (.inr (.inr (fun _ => none))))))), (q3, .inl (cA 4, (16, .inr (.inr (.inr (.inr (fun _ => none)))))))] H := hP
  have hD : va_D A [(h0, .inr (3, [.ref q1, .ref q2, .ref q3, .null, .null, .null, .null, .int 0, .int 0])), (q1, .inl (cA 3, (8, .inr (.inr (.inr (.inr (fun _ => none))))))), (q2, .inl (cA 4, (16, .inr (.inr (.inr (.inr (fun _ => none))))))), (q3, .inl (cA 4, (16, .inr (.inr (.inr (.inr (fun _ => none)))))))] := hD
  refine lv_aload_n hx hb dX_init_31 rfl (lv_at hl 0 rfl) ?_
  refine va_new (ci := 1) (fs := [.null, .int 0, .int 0]) (C := RH) (T := FH) (N := 3) hx hb hts inH tH tH_ok hown (hts _ wl_19) (hts _ wl_20) (hts _ wl_2) hK hP hD hS hA rfl (fun j hj => by rcases (show j = 0 ∨ j = 1 ∨ j = 2 by omega) with rfl | rfl | rfl <;> rfl) (Nat.le_of_ble_eq_true rfl) (Nat.le_of_ble_eq_true rfl) dX_init_32 (fun q4 H hP hD hS => ?_)
  have hP : va_P D classes [(h0, .inr (3, [.ref q1, .ref q2, .ref q3, .null, .null, .null, .null, .int 0, .int 0])), (q1, .inl (cA 3, (8, .inr (.inr (.inr (.inr (fun _ => none))))))), (q2, .inl (cA 4, (16, .inr (.inr (.inr (.inr (fun _ => none))))))), (q3, .inl (cA 4, (16, .inr (.inr (.inr (.inr (fun _ => none))))))), (q4, .inr (1, [.null, .int 0, .int 0]))] H := hP
  have hD : va_D A [(h0, .inr (3, [.ref q1, .ref q2, .ref q3, .null, .null, .null, .null, .int 0, .int 0])), (q1, .inl (cA 3, (8, .inr (.inr (.inr (.inr (fun _ => none))))))), (q2, .inl (cA 4, (16, .inr (.inr (.inr (.inr (fun _ => none))))))), (q3, .inl (cA 4, (16, .inr (.inr (.inr (.inr (fun _ => none))))))), (q4, .inr (1, [.null, .int 0, .int 0]))] := hD
  refine lv_dup hx hb dX_init_35 rfl ?_
  refine lv_bipush (v := 16) hx hb dX_init_36 (by decide) ?_
  have hPc := hP.sub (ws' := [(q4, .inr (1, [.null, .int 0, .int 0]))]) [4] rfl
  have hFc := va_free (wc := [(q4, .inr (1, [.null, .int 0, .int 0]))]) hD hS hA [4] rfl
  refine va_callv (va_runI (As := [.int 16]) (rest := [.ref q4, .ref h0]) ⟨hx, hb, hml, hown, hts⟩ (cH_init l D cA q4 H.size 16) (cwI 1 hts (kx_good wl_23) rfl rfl rfl (hts _ wl_2) (hts _ wl_21) (hts _ wl_22) rfl ⟨by decide +kernel, by decide +kernel, by decide +kernel⟩ ⟨Nat.le_of_ble_eq_true rfl, Nat.le_of_ble_eq_true rfl⟩) ⟨fun a U g mk q => by obtain ⟨q0, q1, qP, qK⟩ := q; exact ⟨q0, q1, qP, va_K.moved (u := U) (U := U.calling g mk a) (Vm.Alike.refl U.vm) qK⟩, fun U hU hW => ⟨rfl, by rw [hU], by rw [hU]; exact hPc, va_K.moved hW.alike hK⟩⟩ rfl rfl hl.1 rfl (lv_room (Nat.le_of_ble_eq_true rfl)) dX_init_38 ⟨Nat.le_of_ble_eq_true rfl, Nat.le_of_ble_eq_true rfl⟩) hS (fun q _ h => hFc q h) hFc (fun u t H1 locs ht hvm hw hB hz1 hk1 hS => ?_)
  obtain ⟨q5, eq5⟩ : ∃ z : Nat, z = u := ⟨u, rfl⟩
  subst eq5
  obtain ⟨hP1, hD1⟩ := hB
  rw [ht] at hP1
  obtain ⟨hP, hD⟩ := va_join (wr := [(h0, .inr (3, [.ref q1, .ref q2, .ref q3, .null, .null, .null, .null, .int 0, .int 0])), (q1, .inl (cA 3, (8, .inr (.inr (.inr (.inr (fun _ => none))))))), (q2, .inl (cA 4, (16, .inr (.inr (.inr (.inr (fun _ => none))))))), (q3, .inl (cA 4, (16, .inr (.inr (.inr (.inr (fun _ => none)))))))]) (w1 := [(q4, .inr (1, [.ref q5, .int 16, .int 0])), (q5, .inl (cA 0, (16, .inl (fun _ => 0))))]) hP hD [4] [0, 1, 2, 3] rfl rfl (by decide) (by decide) hk1 hFc hP1 hD1
  generalize H1 = H at hP hS ⊢
  have hP : va_P D classes [(h0, .inr (3, [.ref q1, .ref q2, .ref q3, .null, .null, .null, .null, .int 0, .int 0])), (q1, .inl (cA 3, (8, .inr (.inr (.inr (.inr (fun _ => none))))))), (q2, .inl (cA 4, (16, .inr (.inr (.inr (.inr (fun _ => none))))))), (q3, .inl (cA 4, (16, .inr (.inr (.inr (.inr (fun _ => none))))))), (q4, .inr (1, [.ref q5, .int 16, .int 0])), (q5, .inl (cA 0, (16, .inl (fun _ => 0))))] H := hP
  have hD : va_D A [(h0, .inr (3, [.ref q1, .ref q2, .ref q3, .null, .null, .null, .null, .int 0, .int 0])), (q1, .inl (cA 3, (8, .inr (.inr (.inr (.inr (fun _ => none))))))), (q2, .inl (cA 4, (16, .inr (.inr (.inr (.inr (fun _ => none))))))), (q3, .inl (cA 4, (16, .inr (.inr (.inr (.inr (fun _ => none))))))), (q4, .inr (1, [.ref q5, .int 16, .int 0])), (q5, .inl (cA 0, (16, .inl (fun _ => 0))))] := hD
  refine va_putF (D := D) (ci := 3) (v := .ref q4) (C := RX) (T := FX) (N := 9) hx hb hts inX tX tX_ok nX hown hK hP hD hS 0 rfl rfl 3 (by decide) (hts _ wl_114) (fun _ h9 => h9) rfl hin rfl (tX_ok 3 (by decide)) rfl rfl (Nat.le_of_ble_eq_true rfl) dX_init_41 (fun H locs hP hD hS => ?_)
  have hP : va_P D classes [(h0, .inr (3, [.ref q1, .ref q2, .ref q3, .ref q4, .null, .null, .null, .int 0, .int 0])), (q1, .inl (cA 3, (8, .inr (.inr (.inr (.inr (fun _ => none))))))), (q2, .inl (cA 4, (16, .inr (.inr (.inr (.inr (fun _ => none))))))), (q3, .inl (cA 4, (16, .inr (.inr (.inr (.inr (fun _ => none))))))), (q4, .inr (1, [.ref q5, .int 16, .int 0])), (q5, .inl (cA 0, (16, .inl (fun _ => 0))))] H := hP
  have hD : va_D A [(h0, .inr (3, [.ref q1, .ref q2, .ref q3, .ref q4, .null, .null, .null, .int 0, .int 0])), (q1, .inl (cA 3, (8, .inr (.inr (.inr (.inr (fun _ => none))))))), (q2, .inl (cA 4, (16, .inr (.inr (.inr (.inr (fun _ => none))))))), (q3, .inl (cA 4, (16, .inr (.inr (.inr (.inr (fun _ => none))))))), (q4, .inr (1, [.ref q5, .int 16, .int 0])), (q5, .inl (cA 0, (16, .inl (fun _ => 0))))] := hD
  refine lv_aload_n hx hb dX_init_44 rfl (lv_at hl 0 rfl) ?_
  refine va_new (ci := 1) (fs := [.null, .int 0, .int 0]) (C := RH) (T := FH) (N := 3) hx hb hts inH tH tH_ok hown (hts _ wl_19) (hts _ wl_20) (hts _ wl_2) hK hP hD hS hA rfl (fun j hj => by rcases (show j = 0 ∨ j = 1 ∨ j = 2 by omega) with rfl | rfl | rfl <;> rfl) (Nat.le_of_ble_eq_true rfl) (Nat.le_of_ble_eq_true rfl) dX_init_45 (fun q6 H hP hD hS => ?_)
  have hP : va_P D classes [(h0, .inr (3, [.ref q1, .ref q2, .ref q3, .ref q4, .null, .null, .null, .int 0, .int 0])), (q1, .inl (cA 3, (8, .inr (.inr (.inr (.inr (fun _ => none))))))), (q2, .inl (cA 4, (16, .inr (.inr (.inr (.inr (fun _ => none))))))), (q3, .inl (cA 4, (16, .inr (.inr (.inr (.inr (fun _ => none))))))), (q4, .inr (1, [.ref q5, .int 16, .int 0])), (q5, .inl (cA 0, (16, .inl (fun _ => 0)))), (q6, .inr (1, [.null, .int 0, .int 0]))] H := hP
  have hD : va_D A [(h0, .inr (3, [.ref q1, .ref q2, .ref q3, .ref q4, .null, .null, .null, .int 0, .int 0])), (q1, .inl (cA 3, (8, .inr (.inr (.inr (.inr (fun _ => none))))))), (q2, .inl (cA 4, (16, .inr (.inr (.inr (.inr (fun _ => none))))))), (q3, .inl (cA 4, (16, .inr (.inr (.inr (.inr (fun _ => none))))))), (q4, .inr (1, [.ref q5, .int 16, .int 0])), (q5, .inl (cA 0, (16, .inl (fun _ => 0)))), (q6, .inr (1, [.null, .int 0, .int 0]))] := hD
  refine lv_dup hx hb dX_init_48 rfl ?_
  refine lv_bipush (v := 8) hx hb dX_init_49 (by decide) ?_
  have hPc := hP.sub (ws' := [(q6, .inr (1, [.null, .int 0, .int 0]))]) [6] rfl
  have hFc := va_free (wc := [(q6, .inr (1, [.null, .int 0, .int 0]))]) hD hS hA [6] rfl
  refine va_callv (va_runI (As := [.int 8]) (rest := [.ref q6, .ref h0]) ⟨hx, hb, hml, hown, hts⟩ (cH_init l D cA q6 H.size 8) (cwI 1 hts (kx_good wl_23) rfl rfl rfl (hts _ wl_2) (hts _ wl_21) (hts _ wl_22) rfl ⟨by decide +kernel, by decide +kernel, by decide +kernel⟩ ⟨Nat.le_of_ble_eq_true rfl, Nat.le_of_ble_eq_true rfl⟩) ⟨fun a U g mk q => by obtain ⟨q0, q1, qP, qK⟩ := q; exact ⟨q0, q1, qP, va_K.moved (u := U) (U := U.calling g mk a) (Vm.Alike.refl U.vm) qK⟩, fun U hU hW => ⟨rfl, by rw [hU], by rw [hU]; exact hPc, va_K.moved hW.alike hK⟩⟩ rfl rfl hl.1 rfl (lv_room (Nat.le_of_ble_eq_true rfl)) dX_init_51 ⟨Nat.le_of_ble_eq_true rfl, Nat.le_of_ble_eq_true rfl⟩) hS (fun q _ h => hFc q h) hFc (fun u t H1 locs ht hvm hw hB hz1 hk1 hS => ?_)
  obtain ⟨q7, eq7⟩ : ∃ z : Nat, z = u := ⟨u, rfl⟩
  subst eq7
  obtain ⟨hP1, hD1⟩ := hB
  rw [ht] at hP1
  obtain ⟨hP, hD⟩ := va_join (wr := [(h0, .inr (3, [.ref q1, .ref q2, .ref q3, .ref q4, .null, .null, .null, .int 0, .int 0])), (q1, .inl (cA 3, (8, .inr (.inr (.inr (.inr (fun _ => none))))))), (q2, .inl (cA 4, (16, .inr (.inr (.inr (.inr (fun _ => none))))))), (q3, .inl (cA 4, (16, .inr (.inr (.inr (.inr (fun _ => none))))))), (q4, .inr (1, [.ref q5, .int 16, .int 0])), (q5, .inl (cA 0, (16, .inl (fun _ => 0))))]) (w1 := [(q6, .inr (1, [.ref q7, .int 8, .int 0])), (q7, .inl (cA 0, (16, .inl (fun _ => 0))))]) hP hD [6] [0, 1, 2, 3, 4, 5] rfl rfl (by decide) (by decide) hk1 hFc hP1 hD1
  generalize H1 = H at hP hS ⊢
  have hP : va_P D classes [(h0, .inr (3, [.ref q1, .ref q2, .ref q3, .ref q4, .null, .null, .null, .int 0, .int 0])), (q1, .inl (cA 3, (8, .inr (.inr (.inr (.inr (fun _ => none))))))), (q2, .inl (cA 4, (16, .inr (.inr (.inr (.inr (fun _ => none))))))), (q3, .inl (cA 4, (16, .inr (.inr (.inr (.inr (fun _ => none))))))), (q4, .inr (1, [.ref q5, .int 16, .int 0])), (q5, .inl (cA 0, (16, .inl (fun _ => 0)))), (q6, .inr (1, [.ref q7, .int 8, .int 0])), (q7, .inl (cA 0, (16, .inl (fun _ => 0))))] H := hP
  have hD : va_D A [(h0, .inr (3, [.ref q1, .ref q2, .ref q3, .ref q4, .null, .null, .null, .int 0, .int 0])), (q1, .inl (cA 3, (8, .inr (.inr (.inr (.inr (fun _ => none))))))), (q2, .inl (cA 4, (16, .inr (.inr (.inr (.inr (fun _ => none))))))), (q3, .inl (cA 4, (16, .inr (.inr (.inr (.inr (fun _ => none))))))), (q4, .inr (1, [.ref q5, .int 16, .int 0])), (q5, .inl (cA 0, (16, .inl (fun _ => 0)))), (q6, .inr (1, [.ref q7, .int 8, .int 0])), (q7, .inl (cA 0, (16, .inl (fun _ => 0))))] := hD
  refine va_putF (D := D) (ci := 3) (v := .ref q6) (C := RX) (T := FX) (N := 9) hx hb hts inX tX tX_ok nX hown hK hP hD hS 0 rfl rfl 4 (by decide) (hts _ wl_115) (fun _ h9 => h9) rfl hin rfl (tX_ok 4 (by decide)) rfl rfl (Nat.le_of_ble_eq_true rfl) dX_init_54 (fun H locs hP hD hS => ?_)
  have hP : va_P D classes [(h0, .inr (3, [.ref q1, .ref q2, .ref q3, .ref q4, .ref q6, .null, .null, .int 0, .int 0])), (q1, .inl (cA 3, (8, .inr (.inr (.inr (.inr (fun _ => none))))))), (q2, .inl (cA 4, (16, .inr (.inr (.inr (.inr (fun _ => none))))))), (q3, .inl (cA 4, (16, .inr (.inr (.inr (.inr (fun _ => none))))))), (q4, .inr (1, [.ref q5, .int 16, .int 0])), (q5, .inl (cA 0, (16, .inl (fun _ => 0)))), (q6, .inr (1, [.ref q7, .int 8, .int 0])), (q7, .inl (cA 0, (16, .inl (fun _ => 0))))] H := hP
  have hD : va_D A [(h0, .inr (3, [.ref q1, .ref q2, .ref q3, .ref q4, .ref q6, .null, .null, .int 0, .int 0])), (q1, .inl (cA 3, (8, .inr (.inr (.inr (.inr (fun _ => none))))))), (q2, .inl (cA 4, (16, .inr (.inr (.inr (.inr (fun _ => none))))))), (q3, .inl (cA 4, (16, .inr (.inr (.inr (.inr (fun _ => none))))))), (q4, .inr (1, [.ref q5, .int 16, .int 0])), (q5, .inl (cA 0, (16, .inl (fun _ => 0)))), (q6, .inr (1, [.ref q7, .int 8, .int 0])), (q7, .inl (cA 0, (16, .inl (fun _ => 0))))] := hD
  refine lv_aload_n hx hb dX_init_57 rfl (lv_at hl 0 rfl) ?_
  refine va_new (ci := 1) (fs := [.null, .int 0, .int 0]) (C := RH) (T := FH) (N := 3) hx hb hts inH tH tH_ok hown (hts _ wl_19) (hts _ wl_20) (hts _ wl_2) hK hP hD hS hA rfl (fun j hj => by rcases (show j = 0 ∨ j = 1 ∨ j = 2 by omega) with rfl | rfl | rfl <;> rfl) (Nat.le_of_ble_eq_true rfl) (Nat.le_of_ble_eq_true rfl) dX_init_58 (fun q8 H hP hD hS => ?_)
  have hP : va_P D classes [(h0, .inr (3, [.ref q1, .ref q2, .ref q3, .ref q4, .ref q6, .null, .null, .int 0, .int 0])), (q1, .inl (cA 3, (8, .inr (.inr (.inr (.inr (fun _ => none))))))), (q2, .inl (cA 4, (16, .inr (.inr (.inr (.inr (fun _ => none))))))), (q3, .inl (cA 4, (16, .inr (.inr (.inr (.inr (fun _ => none))))))), (q4, .inr (1, [.ref q5, .int 16, .int 0])), (q5, .inl (cA 0, (16, .inl (fun _ => 0)))), (q6, .inr (1, [.ref q7, .int 8, .int 0])), (q7, .inl (cA 0, (16, .inl (fun _ => 0)))), (q8, .inr (1, [.null, .int 0, .int 0]))] H := hP
  have hD : va_D A [(h0, .inr (3, [.ref q1, .ref q2, .ref q3, .ref q4, .ref q6, .null, .null, .int 0, .int 0])), (q1, .inl (cA 3, (8, .inr (.inr (.inr (.inr (fun _ => none))))))), (q2, .inl (cA 4, (16, .inr (.inr (.inr (.inr (fun _ => none))))))), (q3, .inl (cA 4, (16, .inr (.inr (.inr (.inr (fun _ => none))))))), (q4, .inr (1, [.ref q5, .int 16, .int 0])), (q5, .inl (cA 0, (16, .inl (fun _ => 0)))), (q6, .inr (1, [.ref q7, .int 8, .int 0])), (q7, .inl (cA 0, (16, .inl (fun _ => 0)))), (q8, .inr (1, [.null, .int 0, .int 0]))] := hD
  refine lv_dup hx hb dX_init_61 rfl ?_
  refine lv_bipush (v := 8) hx hb dX_init_62 (by decide) ?_
  have hPc := hP.sub (ws' := [(q8, .inr (1, [.null, .int 0, .int 0]))]) [8] rfl
  have hFc := va_free (wc := [(q8, .inr (1, [.null, .int 0, .int 0]))]) hD hS hA [8] rfl
  refine va_callv (va_runI (As := [.int 8]) (rest := [.ref q8, .ref h0]) ⟨hx, hb, hml, hown, hts⟩ (cH_init l D cA q8 H.size 8) (cwI 1 hts (kx_good wl_23) rfl rfl rfl (hts _ wl_2) (hts _ wl_21) (hts _ wl_22) rfl ⟨by decide +kernel, by decide +kernel, by decide +kernel⟩ ⟨Nat.le_of_ble_eq_true rfl, Nat.le_of_ble_eq_true rfl⟩) ⟨fun a U g mk q => by obtain ⟨q0, q1, qP, qK⟩ := q; exact ⟨q0, q1, qP, va_K.moved (u := U) (U := U.calling g mk a) (Vm.Alike.refl U.vm) qK⟩, fun U hU hW => ⟨rfl, by rw [hU], by rw [hU]; exact hPc, va_K.moved hW.alike hK⟩⟩ rfl rfl hl.1 rfl (lv_room (Nat.le_of_ble_eq_true rfl)) dX_init_64 ⟨Nat.le_of_ble_eq_true rfl, Nat.le_of_ble_eq_true rfl⟩) hS (fun q _ h => hFc q h) hFc (fun u t H1 locs ht hvm hw hB hz1 hk1 hS => ?_)
  obtain ⟨q9, eq9⟩ : ∃ z : Nat, z = u := ⟨u, rfl⟩
  subst eq9
  obtain ⟨hP1, hD1⟩ := hB
  rw [ht] at hP1
  obtain ⟨hP, hD⟩ := va_join (wr := [(h0, .inr (3, [.ref q1, .ref q2, .ref q3, .ref q4, .ref q6, .null, .null, .int 0, .int 0])), (q1, .inl (cA 3, (8, .inr (.inr (.inr (.inr (fun _ => none))))))), (q2, .inl (cA 4, (16, .inr (.inr (.inr (.inr (fun _ => none))))))), (q3, .inl (cA 4, (16, .inr (.inr (.inr (.inr (fun _ => none))))))), (q4, .inr (1, [.ref q5, .int 16, .int 0])), (q5, .inl (cA 0, (16, .inl (fun _ => 0)))), (q6, .inr (1, [.ref q7, .int 8, .int 0])), (q7, .inl (cA 0, (16, .inl (fun _ => 0))))]) (w1 := [(q8, .inr (1, [.ref q9, .int 8, .int 0])), (q9, .inl (cA 0, (16, .inl (fun _ => 0))))]) hP hD [8] [0, 1, 2, 3, 4, 5, 6, 7] rfl rfl (by decide) (by decide) hk1 hFc hP1 hD1
  generalize H1 = H at hP hS ⊢
  have hP : va_P D classes [(h0, .inr (3, [.ref q1, .ref q2, .ref q3, .ref q4, .ref q6, .null, .null, .int 0, .int 0])), (q1, .inl (cA 3, (8, .inr (.inr (.inr (.inr (fun _ => none))))))), (q2, .inl (cA 4, (16, .inr (.inr (.inr (.inr (fun _ => none))))))), (q3, .inl (cA 4, (16, .inr (.inr (.inr (.inr (fun _ => none))))))), (q4, .inr (1, [.ref q5, .int 16, .int 0])), (q5, .inl (cA 0, (16, .inl (fun _ => 0)))), (q6, .inr (1, [.ref q7, .int 8, .int 0])), (q7, .inl (cA 0, (16, .inl (fun _ => 0)))), (q8, .inr (1, [.ref q9, .int 8, .int 0])), (q9, .inl (cA 0, (16, .inl (fun _ => 0))))] H := hP
  have hD : va_D A [(h0, .inr (3, [.ref q1, .ref q2, .ref q3, .ref q4, .ref q6, .null, .null, .int 0, .int 0])), (q1, .inl (cA 3, (8, .inr (.inr (.inr (.inr (fun _ => none))))))), (q2, .inl (cA 4, (16, .inr (.inr (.inr (.inr (fun _ => none))))))), (q3, .inl (cA 4, (16, .inr (.inr (.inr (.inr (fun _ => none))))))), (q4, .inr (1, [.ref q5, .int 16, .int 0])), (q5, .inl (cA 0, (16, .inl (fun _ => 0)))), (q6, .inr (1, [.ref q7, .int 8, .int 0])), (q7, .inl (cA 0, (16, .inl (fun _ => 0)))), (q8, .inr (1, [.ref q9, .int 8, .int 0])), (q9, .inl (cA 0, (16, .inl (fun _ => 0))))] := hD
  refine va_putF (D := D) (ci := 3) (v := .ref q8) (C := RX) (T := FX) (N := 9) hx hb hts inX tX tX_ok nX hown hK hP hD hS 0 rfl rfl 5 (by decide) (hts _ wl_116) (fun _ h9 => h9) rfl hin rfl (tX_ok 5 (by decide)) rfl rfl (Nat.le_of_ble_eq_true rfl) dX_init_67 (fun H locs hP hD hS => ?_)
  have hP : va_P D classes [(h0, .inr (3, [.ref q1, .ref q2, .ref q3, .ref q4, .ref q6, .ref q8, .null, .int 0, .int 0])), (q1, .inl (cA 3, (8, .inr (.inr (.inr (.inr (fun _ => none))))))), (q2, .inl (cA 4, (16, .inr (.inr (.inr (.inr (fun _ => none))))))), (q3, .inl (cA 4, (16, .inr (.inr (.inr (.inr (fun _ => none))))))), (q4, .inr (1, [.ref q5, .int 16, .int 0])), (q5, .inl (cA 0, (16, .inl (fun _ => 0)))), (q6, .inr (1, [.ref q7, .int 8, .int 0])), (q7, .inl (cA 0, (16, .inl (fun _ => 0)))), (q8, .inr (1, [.ref q9, .int 8, .int 0])), (q9, .inl (cA 0, (16, .inl (fun _ => 0))))] H := hP
  have hD : va_D A [(h0, .inr (3, [.ref q1, .ref q2, .ref q3, .ref q4, .ref q6, .ref q8, .null, .int 0, .int 0])), (q1, .inl (cA 3, (8, .inr (.inr (.inr (.inr (fun _ => none))))))), (q2, .inl (cA 4, (16, .inr (.inr (.inr (.inr (fun _ => none))))))), (q3, .inl (cA 4, (16, .inr (.inr (.inr (.inr (fun _ => none))))))), (q4, .inr (1, [.ref q5, .int 16, .int 0])), (q5, .inl (cA 0, (16, .inl (fun _ => 0)))), (q6, .inr (1, [.ref q7, .int 8, .int 0])), (q7, .inl (cA 0, (16, .inl (fun _ => 0)))), (q8, .inr (1, [.ref q9, .int 8, .int 0])), (q9, .inl (cA 0, (16, .inl (fun _ => 0))))] := hD
  refine lv_aload_n hx hb dX_init_70 rfl (lv_at hl 0 rfl) ?_
  refine va_new (ci := 1) (fs := [.null, .int 0, .int 0]) (C := RH) (T := FH) (N := 3) hx hb hts inH tH tH_ok hown (hts _ wl_19) (hts _ wl_20) (hts _ wl_2) hK hP hD hS hA rfl (fun j hj => by rcases (show j = 0 ∨ j = 1 ∨ j = 2 by omega) with rfl | rfl | rfl <;> rfl) (Nat.le_of_ble_eq_true rfl) (Nat.le_of_ble_eq_true rfl) dX_init_71 (fun q10 H hP hD hS => ?_)
  have hP : va_P D classes [(h0, .inr (3, [.ref q1, .ref q2, .ref q3, .ref q4, .ref q6, .ref q8, .null, .int 0, .int 0])), (q1, .inl (cA 3, (8, .inr (.inr (.inr (.inr (fun _ => none))))))), (q2, .inl (cA 4, (16, .inr (.inr (.inr (.inr (fun _ => none))))))), (q3, .inl (cA 4, (16, .inr (.inr (.inr (.inr (fun _ => none))))))), (q4, .inr (1, [.ref q5, .int 16, .int 0])), (q5, .inl (cA 0, (16, .inl (fun _ => 0)))), (q6, .inr (1, [.ref q7, .int 8, .int 0])), (q7, .inl (cA 0, (16, .inl (fun _ => 0)))), (q8, .inr (1, [.ref q9, .int 8, .int 0])), (q9, .inl (cA 0, (16, .inl (fun _ => 0)))), (q10, .inr (1, [.null, .int 0, .int 0]))] H := hP
  have hD : va_D A [(h0, .inr (3, [.ref q1, .ref q2, .ref q3, .ref q4, .ref q6, .ref q8, .null, .int 0, .int 0])), (q1, .inl (cA 3, (8, .inr (.inr (.inr (.inr (fun _ => none))))))), (q2, .inl (cA 4, (16, .inr (.inr (.inr (.inr (fun _ => none))))))), (q3, .inl (cA 4, (16, .inr (.inr (.inr (.inr (fun _ => none))))))), (q4, .inr (1, [.ref q5, .int 16, .int 0])), (q5, .inl (cA 0, (16, .inl (fun _ => 0)))), (q6, .inr (1, [.ref q7, .int 8, .int 0])), (q7, .inl (cA 0, (16, .inl (fun _ => 0)))), (q8, .inr (1, [.ref q9, .int 8, .int 0])), (q9, .inl (cA 0, (16, .inl (fun _ => 0)))), (q10, .inr (1, [.null, .int 0, .int 0]))] := hD
  refine lv_dup hx hb dX_init_74 rfl ?_
  refine lv_bipush (v := 8) hx hb dX_init_75 (by decide) ?_
  have hPc := hP.sub (ws' := [(q10, .inr (1, [.null, .int 0, .int 0]))]) [10] rfl
  have hFc := va_free (wc := [(q10, .inr (1, [.null, .int 0, .int 0]))]) hD hS hA [10] rfl
  refine va_callv (va_runI (As := [.int 8]) (rest := [.ref q10, .ref h0]) ⟨hx, hb, hml, hown, hts⟩ (cH_init l D cA q10 H.size 8) (cwI 1 hts (kx_good wl_23) rfl rfl rfl (hts _ wl_2) (hts _ wl_21) (hts _ wl_22) rfl ⟨by decide +kernel, by decide +kernel, by decide +kernel⟩ ⟨Nat.le_of_ble_eq_true rfl, Nat.le_of_ble_eq_true rfl⟩) ⟨fun a U g mk q => by obtain ⟨q0, q1, qP, qK⟩ := q; exact ⟨q0, q1, qP, va_K.moved (u := U) (U := U.calling g mk a) (Vm.Alike.refl U.vm) qK⟩, fun U hU hW => ⟨rfl, by rw [hU], by rw [hU]; exact hPc, va_K.moved hW.alike hK⟩⟩ rfl rfl hl.1 rfl (lv_room (Nat.le_of_ble_eq_true rfl)) dX_init_77 ⟨Nat.le_of_ble_eq_true rfl, Nat.le_of_ble_eq_true rfl⟩) hS (fun q _ h => hFc q h) hFc (fun u t H1 locs ht hvm hw hB hz1 hk1 hS => ?_)
  obtain ⟨q11, eq11⟩ : ∃ z : Nat, z = u := ⟨u, rfl⟩
  subst eq11
  obtain ⟨hP1, hD1⟩ := hB
  rw [ht] at hP1
  obtain ⟨hP, hD⟩ := va_join (wr := [(h0, .inr (3, [.ref q1, .ref q2, .ref q3, .ref q4, .ref q6, .ref q8, .null, .int 0, .int 0])), (q1, .inl (cA 3, (8, .inr (.inr (.inr (.inr (fun _ => none))))))), (q2, .inl (cA 4, (16, .inr (.inr (.inr (.inr (fun _ => none))))))), (q3, .inl (cA 4, (16, .inr (.inr (.inr (.inr (fun _ => none))))))), (q4, .inr (1, [.ref q5, .int 16, .int 0])), (q5, .inl (cA 0, (16, .inl (fun _ => 0)))), (q6, .inr (1, [.ref q7, .int 8, .int 0])), (q7, .inl (cA 0, (16, .inl (fun _ => 0)))), (q8, .inr (1, [.ref q9, .int 8, .int 0])), (q9, .inl (cA 0, (16, .inl (fun _ => 0))))]) (w1 := [(q10, .inr (1, [.ref q11, .int 8, .int 0])), (q11, .inl (cA 0, (16, .inl (fun _ => 0))))]) hP hD [10] [0, 1, 2, 3, 4, 5, 6, 7, 8, 9] rfl rfl (by decide) (by decide) hk1 hFc hP1 hD1
  generalize H1 = H at hP hS ⊢
  have hP : va_P D classes [(h0, .inr (3, [.ref q1, .ref q2, .ref q3, .ref q4, .ref q6, .ref q8, .null, .int 0, .int 0])), (q1, .inl (cA 3, (8, .inr (.inr (.inr (.inr (fun _ => none))))))), (q2, .inl (cA 4, (16, .inr (.inr (.inr (.inr (fun _ => none))))))), (q3, .inl (cA 4, (16, .inr (.inr (.inr (.inr (fun _ => none))))))), (q4, .inr (1, [.ref q5, .int 16, .int 0])), (q5, .inl (cA 0, (16, .inl (fun _ => 0)))), (q6, .inr (1, [.ref q7, .int 8, .int 0])), (q7, .inl (cA 0, (16, .inl (fun _ => 0)))), (q8, .inr (1, [.ref q9, .int 8, .int 0])), (q9, .inl (cA 0, (16, .inl (fun _ => 0)))), (q10, .inr (1, [.ref q11, .int 8, .int 0])), (q11, .inl (cA 0, (16, .inl (fun _ => 0))))] H := hP
  have hD : va_D A [(h0, .inr (3, [.ref q1, .ref q2, .ref q3, .ref q4, .ref q6, .ref q8, .null, .int 0, .int 0])), (q1, .inl (cA 3, (8, .inr (.inr (.inr (.inr (fun _ => none))))))), (q2, .inl (cA 4, (16, .inr (.inr (.inr (.inr (fun _ => none))))))), (q3, .inl (cA 4, (16, .inr (.inr (.inr (.inr (fun _ => none))))))), (q4, .inr (1, [.ref q5, .int 16, .int 0])), (q5, .inl (cA 0, (16, .inl (fun _ => 0)))), (q6, .inr (1, [.ref q7, .int 8, .int 0])), (q7, .inl (cA 0, (16, .inl (fun _ => 0)))), (q8, .inr (1, [.ref q9, .int 8, .int 0])), (q9, .inl (cA 0, (16, .inl (fun _ => 0)))), (q10, .inr (1, [.ref q11, .int 8, .int 0])), (q11, .inl (cA 0, (16, .inl (fun _ => 0))))] := hD
  refine va_putF (D := D) (ci := 3) (v := .ref q10) (C := RX) (T := FX) (N := 9) hx hb hts inX tX tX_ok nX hown hK hP hD hS 0 rfl rfl 6 (by decide) (hts _ wl_117) (fun _ h9 => h9) rfl hin rfl (tX_ok 6 (by decide)) rfl rfl (Nat.le_of_ble_eq_true rfl) dX_init_80 (fun H locs hP hD hS => ?_)
  have hP : va_P D classes [(h0, .inr (3, [.ref q1, .ref q2, .ref q3, .ref q4, .ref q6, .ref q8, .ref q10, .int 0, .int 0])), (q1, .inl (cA 3, (8, .inr (.inr (.inr (.inr (fun _ => none))))))), (q2, .inl (cA 4, (16, .inr (.inr (.inr (.inr (fun _ => none))))))), (q3, .inl (cA 4, (16, .inr (.inr (.inr (.inr (fun _ => none))))))), (q4, .inr (1, [.ref q5, .int 16, .int 0])), (q5, .inl (cA 0, (16, .inl (fun _ => 0)))), (q6, .inr (1, [.ref q7, .int 8, .int 0])), (q7, .inl (cA 0, (16, .inl (fun _ => 0)))), (q8, .inr (1, [.ref q9, .int 8, .int 0])), (q9, .inl (cA 0, (16, .inl (fun _ => 0)))), (q10, .inr (1, [.ref q11, .int 8, .int 0])), (q11, .inl (cA 0, (16, .inl (fun _ => 0))))] H := hP
  have hD : va_D A [(h0, .inr (3, [.ref q1, .ref q2, .ref q3, .ref q4, .ref q6, .ref q8, .ref q10, .int 0, .int 0])), (q1, .inl (cA 3, (8, .inr (.inr (.inr (.inr (fun _ => none))))))), (q2, .inl (cA 4, (16, .inr (.inr (.inr (.inr (fun _ => none))))))), (q3, .inl (cA 4, (16, .inr (.inr (.inr (.inr (fun _ => none))))))), (q4, .inr (1, [.ref q5, .int 16, .int 0])), (q5, .inl (cA 0, (16, .inl (fun _ => 0)))), (q6, .inr (1, [.ref q7, .int 8, .int 0])), (q7, .inl (cA 0, (16, .inl (fun _ => 0)))), (q8, .inr (1, [.ref q9, .int 8, .int 0])), (q9, .inl (cA 0, (16, .inl (fun _ => 0)))), (q10, .inr (1, [.ref q11, .int 8, .int 0])), (q11, .inl (cA 0, (16, .inl (fun _ => 0))))] := hD
  have hP := hP.sub (ws' := [(h0, .inr (3, [.ref q1, .ref q2, .ref q3, .ref q4, .ref q6, .ref q8, .ref q10, .int 0, .int 0])), (q1, .inl (cA 3, (8, .inr (.inr (.inr (.inr (fun _ => none))))))), (q2, .inl (cA 4, (16, .inr (.inr (.inr (.inr (fun _ => none))))))), (q3, .inl (cA 4, (16, .inr (.inr (.inr (.inr (fun _ => none))))))), (q4, .inr (1, [.ref q5, .int 16, .int 0])), (q6, .inr (1, [.ref q7, .int 8, .int 0])), (q8, .inr (1, [.ref q9, .int 8, .int 0])), (q10, .inr (1, [.ref q11, .int 8, .int 0])), (q5, .inl (cA 0, (16, .inl (fun _ => 0)))), (q7, .inl (cA 0, (16, .inl (fun _ => 0)))), (q9, .inl (cA 0, (16, .inl (fun _ => 0)))), (q11, .inl (cA 0, (16, .inl (fun _ => 0))))]) [0, 1, 2, 3, 4, 6, 8, 10, 5, 7, 9, 11] rfl
  have hD := hD.sub (ws' := [(h0, .inr (3, [.ref q1, .ref q2, .ref q3, .ref q4, .ref q6, .ref q8, .ref q10, .int 0, .int 0])), (q1, .inl (cA 3, (8, .inr (.inr (.inr (.inr (fun _ => none))))))), (q2, .inl (cA 4, (16, .inr (.inr (.inr (.inr (fun _ => none))))))), (q3, .inl (cA 4, (16, .inr (.inr (.inr (.inr (fun _ => none))))))), (q4, .inr (1, [.ref q5, .int 16, .int 0])), (q6, .inr (1, [.ref q7, .int 8, .int 0])), (q8, .inr (1, [.ref q9, .int 8, .int 0])), (q10, .inr (1, [.ref q11, .int 8, .int 0])), (q5, .inl (cA 0, (16, .inl (fun _ => 0)))), (q7, .inl (cA 0, (16, .inl (fun _ => 0)))), (q9, .inl (cA 0, (16, .inl (fun _ => 0)))), (q11, .inl (cA 0, (16, .inl (fun _ => 0))))]) [0, 1, 2, 3, 4, 6, 8, 10, 5, 7, 9, 11] (by decide) rfl
  obtain ⟨ad0, had0⟩ : ∃ ad : Nat → Nat, ad = (fun k => match k with | 0 => h0 | 1 => q1 | 2 => q2 | 3 => q3 | 4 => q4 | 5 => q6 | 6 => q8 | 7 => q10 | 8 => q5 | 9 => q7 | 10 => q9 | _ => q11) := ⟨_, rfl⟩
  have hP : va_P D classes [(h0, .inr (3, [.ref q1, .ref q2, .ref q3, .ref q4, .ref q6, .ref q8, .ref q10, .int 0, .int 0])), (q1, .inl (cA 3, (8, .inr (.inr (.inr (.inr (plA 12 0 (fun i => i) ad0))))))), (q2, .inl (cA 4, (16, .inr (.inr (.inr (.inr (plA 20 0 (fun i => i) ad0))))))), (q3, .inl (cA 4, (16, .inr (.inr (.inr (.inr (plA 20 0 (fun i => i) ad0))))))), (q4, .inr (1, [.ref q5, .int 16, .int 0])), (q6, .inr (1, [.ref q7, .int 8, .int 0])), (q8, .inr (1, [.ref q9, .int 8, .int 0])), (q10, .inr (1, [.ref q11, .int 8, .int 0])), (q5, .inl (cA 0, (16, .inl (fun _ => 0)))), (q7, .inl (cA 0, (16, .inl (fun _ => 0)))), (q9, .inl (cA 0, (16, .inl (fun _ => 0)))), (q11, .inl (cA 0, (16, .inl (fun _ => 0))))] H := by simp only [plA0]; exact hP
  have hD : va_D A [(h0, .inr (3, [.ref q1, .ref q2, .ref q3, .ref q4, .ref q6, .ref q8, .ref q10, .int 0, .int 0])), (q1, .inl (cA 3, (8, .inr (.inr (.inr (.inr (plA 12 0 (fun i => i) ad0))))))), (q2, .inl (cA 4, (16, .inr (.inr (.inr (.inr (plA 20 0 (fun i => i) ad0))))))), (q3, .inl (cA 4, (16, .inr (.inr (.inr (.inr (plA 20 0 (fun i => i) ad0))))))), (q4, .inr (1, [.ref q5, .int 16, .int 0])), (q6, .inr (1, [.ref q7, .int 8, .int 0])), (q8, .inr (1, [.ref q9, .int 8, .int 0])), (q10, .inr (1, [.ref q11, .int 8, .int 0])), (q5, .inl (cA 0, (16, .inl (fun _ => 0)))), (q7, .inl (cA 0, (16, .inl (fun _ => 0)))), (q9, .inl (cA 0, (16, .inl (fun _ => 0)))), (q11, .inl (cA 0, (16, .inl (fun _ => 0))))] := by simp only [plA0]; exact hD
  have eW : [(h0, .inr (3, [.ref q1, .ref q2, .ref q3, .ref q4, .ref q6, .ref q8, .ref q10, .int 0, .int 0])), (q1, .inl (cA 3, (8, .inr (.inr (.inr (.inr (plA 12 0 (fun i => i) ad0))))))), (q2, .inl (cA 4, (16, .inr (.inr (.inr (.inr (plA 20 0 (fun i => i) ad0))))))), (q3, .inl (cA 4, (16, .inr (.inr (.inr (.inr (plA 20 0 (fun i => i) ad0))))))), (q4, .inr (1, [.ref q5, .int 16, .int 0])), (q6, .inr (1, [.ref q7, .int 8, .int 0])), (q8, .inr (1, [.ref q9, .int 8, .int 0])), (q10, .inr (1, [.ref q11, .int 8, .int 0])), (q5, .inl (cA 0, (16, .inl (fun _ => 0)))), (q7, .inl (cA 0, (16, .inl (fun _ => 0)))), (q9, .inl (cA 0, (16, .inl (fun _ => 0)))), (q11, .inl (cA 0, (16, .inl (fun _ => 0))))] = kw_W 12 ad0 (wS cA ad0 0 0 0) := by rw [had0]; rfl
  rw [eW] at hP hD
  have had : ad0 0 = h0 := congrFun had0 0
  have loop2 : ∀ (fu i : Nat) (ad : Nat → Nat), i ≤ 16 → ad 0 = h0 → 16 - i < fu → ∀ (H : Heap) (locs : List Loc), va_P D classes (kw_W (20 + i) ad (wS cA ad 8 i i)) H → va_D A (kw_W (20 + i) ad (wS cA ad 8 i i)) → va_S A s.heap H locs → ∀ (ls : Array Slot), lv_has ls 2 [(0, .ref h0), (1, .int (nI i))] → W p l e ({ frames := 2, cells := 35, slots := 332, locals := 100 } : Room) s m [Value.ref h0].toArray below meth c H locs (19 + i) (188 + 9 * i) (MQ below (va_Qv (fun ad : Nat → Nat => ad 0 = h0) (fun ad t => va_P D classes (kw_W 36 ad (wX cA ad σ0)) t.heap ∧ va_D A (kw_W 36 ad (wX cA ad σ0))) A) [Value.ref h0].toArray s 35 332 A) (F0 m 113 ls []) := by
    intro fu
    induction fu with
    | zero => intro i ad hi had hm; exact absurd hm (Nat.not_lt_zero _)
    | succ fu ih =>
      intro i ad hi had hm H locs hP hD hS ls hl
      refine lv_iload_n hx hb dX_init_113 rfl (lv_at hl 1 rfl) ?_
      refine lv_bipush (v := 16) hx hb dX_init_114 (by decide) ?_
      refine lv_icmp_ge (tgt := 151) hx hb dX_init_116 (by decide) (fun c_1 => ?_) (fun c_1 => ?_)
      · have c_1 : 16 ≤ i := (nI_le' (a := 16) (b := i) (by omega) (by omega)).mp c_1
        obtain rfl : i = 16 := by omega
        rw [wS_end] at hP hD
        refine W.widen (k := 35) (n := 332) (by omega) (by omega) ?_
        exact W.vret hx hb hr (fun t ht hW => ⟨⟨ad, rfl, had, by rw [ht]; exact hP, hD⟩, hS.F ht⟩) hS.2.2 dX_init_151
      · have c_1 : ¬ 16 ≤ i := fun hq9 => c_1 ((nI_le' (a := 16) (b := i) (by omega) (by omega)).mpr hq9)
        refine lv_aload_n hx hb dX_init_119 rfl (lv_at hl 0 rfl) ?_
        refine va_get (D := D) (ci := 3) (v := .ref (ad 2)) (C := RX) (T := FX) (N := 9) hx hb hts inX hown hK hP 0 (fs := wX_X ad σ0) (by rw [kw_get (by omega), had]; rfl) rfl 1 (by decide) (hts _ wl_112) (fun _ h9 => h9) rfl dX_init_120 ?_
        refine lv_iload_n hx hb dX_init_123 rfl (lv_at hl 1 rfl) ?_
        refine va_new (ci := 0) (fs := z9E) (C := RE) (T := FE) (N := 9) hx hb hts inE tE tE_ok hown (hts _ wl_17) (hts _ wl_75) (hts _ wl_4) hK hP hD hS hA rfl (fun j hj => by rcases (show j = 0 ∨ j = 1 ∨ j = 2 ∨ j = 3 ∨ j = 4 ∨ j = 5 ∨ j = 6 ∨ j = 7 ∨ j = 8 by omega) with rfl | rfl | rfl | rfl | rfl | rfl | rfl | rfl | rfl <;> rfl) (show _ ≤ 35 by omega) (show _ ≤ 332 by omega) dX_init_124 (fun q H hP hD hS => ?_)
        have ep := kn_push (ad := ad) (q := q) (E := wS cA ad 8 i i) (E' := upE (wS cA ad 8 i i) (20 + i) (.inr (0, z9E))) (N := 20 + i) (e' := .inr (0, z9E)) (by simp [upE]) (fun k hk => by simp only [upE]; rw [if_neg (by omega)])
        rw [ep] at hP hD
        refine lv_dup hx hb dX_init_127 rfl ?_
        refine lv_iload_n hx hb dX_init_128 rfl (lv_at hl 1 rfl) ?_
        have hM := cE_init l D cA (kn_J hD).1 (upE (wS cA ad 8 i i) (20 + i) (.inr (0, z9E))) (20 + i) (by omega) z9E (by simp only [upE, if_true]) (by decide) (nI i)
        rw [va_up_self] at hM
        refine kn_call (n := 1) (As := [.int (nI i)]) (rest := [.ref q, .int (nI i), .ref (ad 2)]) (b := q) hx hb hml hown hts hK hZ hA hP hD hS hl.1 hM wl_76 wl_77 wl_4 wl_78 ⟨by decide +kernel, by decide +kernel, by decide +kernel⟩ rfl ⟨by decide, by decide⟩ ⟨rfl, rfl⟩ rfl rfl (Nat.le_of_ble_eq_true rfl) dX_init_129 ⟨show _ ≤ 35 by omega, show _ ≤ 332 by omega⟩ (fun H locs hP hD hS => ?_)
        obtain ⟨f1, f2⟩ := wS_E (cA := cA) (ad := ad) (q := q) (i := i) (by omega)
        have u2 : va_up ad (20 + i) q 2 = ad 2 := va_up_ne _ _ (by omega)
        refine va_astq (r := (RE, FE, 9)) (f := plA 20 i (fun i => i) ad) (vs := z9E.set 0 (.int (nI i))) hx hb hK hP hD hS 2 4 (20 + i) 0 (by rw [kw_get (by omega), u2]; simp only [upE]; rw [if_neg (by omega), if_neg (by omega)]; rfl) rfl (by rw [kw_get (by omega), va_up_self]; simp [upE]) rfl (vp_in_nI (N := 16) (by omega) (by omega)) dX_init_132 (fun H locs hP hD hS => ?_)
        rw [nI_clamp (by omega), ← u2, kw_set (by omega) f1 f2] at hP hD
        have had : va_up ad (20 + i) q 0 = h0 := by rw [va_up_ne _ _ (by omega)]; exact had
        generalize hadq : va_up ad (20 + i) q = ad at hP hD had
        refine lv_aload_n hx hb dX_init_133 rfl (lv_at hl 0 rfl) ?_
        refine va_get (D := D) (ci := 3) (v := .ref (ad 3)) (C := RX) (T := FX) (N := 9) hx hb hts inX hown hK hP 0 (fs := wX_X ad σ0) (by rw [kw_get (by omega), had]; rfl) rfl 2 (by decide) (hts _ wl_113) (fun _ h9 => h9) rfl dX_init_134 ?_
        refine lv_iload_n hx hb dX_init_137 rfl (lv_at hl 1 rfl) ?_
        refine lv_aload_n hx hb dX_init_138 rfl (lv_at hl 0 rfl) ?_
        refine va_get (D := D) (ci := 3) (v := .ref (ad 2)) (C := RX) (T := FX) (N := 9) hx hb hts inX hown hK hP 0 (fs := wX_X ad σ0) (by rw [kw_get (by omega), had]; rfl) rfl 1 (by decide) (hts _ wl_112) (fun _ h9 => h9) rfl dX_init_139 ?_
        refine lv_iload_n hx hb dX_init_142 rfl (lv_at hl 1 rfl) ?_
        refine va_aldq (C := RE) (f := plA 20 (i + 1) (fun i => i) ad) hx hb hK hP 2 4 (by rw [kw_get (by omega)]; rfl) rfl (vp_in_nI (N := 16) (by omega) (by omega)) dX_init_143 ?_
        rw [nI_clamp (by omega), plA_in (by omega)]
        obtain ⟨f1, f2⟩ := wS_O (cA := cA) (ad := ad) (i := i)
        refine va_astq (r := (RE, FE, 9)) (v := ad (20 + i)) (f := plA 20 i (fun i => i) ad) (vs := wX_E σ0 i) hx hb hK hP hD hS 3 4 (20 + i) 0 (by rw [kw_get (by omega)]; rfl) rfl (by rw [kw_get (by omega)]; simp only [wS]; rw [if_neg (by omega), if_neg (by omega), if_neg (by omega), wX_aE]) rfl (vp_in_nI (N := 16) (by omega) (by omega)) dX_init_144 (fun H locs hP hD hS => ?_)
        rw [nI_clamp (by omega), kw_set (by omega) f1 (fun k _ hk => f2 k hk)] at hP hD
        refine lv_iinc (v := nI (i + 1)) (lv' := [(1, .int (nI (i + 1))), (0, .ref h0)]) hx hb dX_init_145 hl (k := 1) rfl (nI_i1 i) (by decide) rfl (fun ls hl => ?_)
        refine lv_goto (tgt := 113) hx hb dX_init_148 (by decide) ?_
        exact W.cs (by omega) (by omega) (ih (i + 1) ad (by omega) had (by omega) _ _ hP hD hS ls (lv_sub hl [1, 0] rfl))
  have loop1 : ∀ (fu i : Nat) (ad : Nat → Nat), i ≤ 8 → ad 0 = h0 → 8 - i < fu → ∀ (H : Heap) (locs : List Loc), va_P D classes (kw_W (12 + i) ad (wS cA ad i 0 0)) H → va_D A (kw_W (12 + i) ad (wS cA ad i 0 0)) → va_S A s.heap H locs → ∀ (ls : Array Slot), lv_has ls 2 [(0, .ref h0), (1, .int (nI i))] → W p l e ({ frames := 2, cells := 35, slots := 332, locals := 100 } : Room) s m [Value.ref h0].toArray below meth c H locs (11 + i) (116 + 9 * i) (MQ below (va_Qv (fun ad : Nat → Nat => ad 0 = h0) (fun ad t => va_P D classes (kw_W 36 ad (wX cA ad σ0)) t.heap ∧ va_D A (kw_W 36 ad (wX cA ad σ0))) A) [Value.ref h0].toArray s 35 332 A) (F0 m 85 ls []) := by
    intro fu
    induction fu with
    | zero => intro i ad hi had hm; exact absurd hm (Nat.not_lt_zero _)
    | succ fu ih =>
      intro i ad hi had hm H locs hP hD hS ls hl
      refine lv_iload_n hx hb dX_init_85 rfl (lv_at hl 1 rfl) ?_
      refine lv_bipush (v := 8) hx hb dX_init_86 (by decide) ?_
      refine lv_icmp_ge (tgt := 111) hx hb dX_init_88 (by decide) (fun c_1 => ?_) (fun c_1 => ?_)
      · have c_1 : 8 ≤ i := (nI_le' (a := 8) (b := i) (by omega) (by omega)).mp c_1
        obtain rfl : i = 8 := by omega
        refine lv_iconst (v := 0) hx hb dX_init_111 (by decide) ?_
        refine lv_istore_n (lv' := [(1, .int 0), (0, .ref h0)]) hx hb dX_init_112 rfl hl (by decide) rfl (fun ls hl => ?_)
        exact loop2 17 0 ad (by omega) had (by omega) H locs hP hD hS ls (lv_sub hl [1, 0] rfl)
      · have c_1 : ¬ 8 ≤ i := fun hq9 => c_1 ((nI_le' (a := 8) (b := i) (by omega) (by omega)).mpr hq9)
        refine lv_aload_n hx hb dX_init_91 rfl (lv_at hl 0 rfl) ?_
        refine va_get (D := D) (ci := 3) (v := .ref (ad 1)) (C := RX) (T := FX) (N := 9) hx hb hts inX hown hK hP 0 (fs := wX_X ad σ0) (by rw [kw_get (by omega), had]; rfl) rfl 0 (by decide) (hts _ wl_111) (fun _ h9 => h9) rfl dX_init_92 ?_
        refine lv_iload_n hx hb dX_init_95 rfl (lv_at hl 1 rfl) ?_
        refine va_new (ci := 2) (fs := z9) (C := RP) (T := FP) (N := 9) hx hb hts inP tP tP_ok hown (hts _ wl_15) (hts _ wl_37) (hts _ wl_3) hK hP hD hS hA rfl (fun j hj => by rcases (show j = 0 ∨ j = 1 ∨ j = 2 ∨ j = 3 ∨ j = 4 ∨ j = 5 ∨ j = 6 ∨ j = 7 ∨ j = 8 by omega) with rfl | rfl | rfl | rfl | rfl | rfl | rfl | rfl | rfl <;> rfl) (show _ ≤ 35 by omega) (show _ ≤ 332 by omega) dX_init_96 (fun q H hP hD hS => ?_)
        have ep := kn_push (ad := ad) (q := q) (E := wS cA ad i 0 0) (E' := upE (wS cA ad i 0 0) (12 + i) (.inr (2, z9))) (N := 12 + i) (e' := .inr (2, z9)) (by simp [upE]) (fun k hk => by simp only [upE]; rw [if_neg (by omega)])
        rw [ep] at hP hD
        refine lv_dup hx hb dX_init_99 rfl ?_
        refine lv_iload_n hx hb dX_init_100 rfl (lv_at hl 1 rfl) ?_
        have hM := cP_init l D cA (kn_J hD).1 (upE (wS cA ad i 0 0) (12 + i) (.inr (2, z9))) (12 + i) (by omega) z9 (by simp only [upE, if_true]) (by decide) (nI i)
        rw [va_up_self] at hM
        refine kn_call (n := 1) (As := [.int (nI i)]) (rest := [.ref q, .int (nI i), .ref (ad 1)]) (b := q) hx hb hml hown hts hK hZ hA hP hD hS hl.1 hM wl_38 wl_39 wl_3 wl_40 ⟨by decide +kernel, by decide +kernel, by decide +kernel⟩ rfl ⟨by decide, by decide⟩ ⟨rfl, rfl⟩ rfl rfl (Nat.le_of_ble_eq_true rfl) dX_init_101 ⟨show _ ≤ 35 by omega, show _ ≤ 332 by omega⟩ (fun H locs hP hD hS => ?_)
        obtain ⟨f1, f2⟩ := wS_P (cA := cA) (ad := ad) (q := q) (i := i) (by omega)
        have u1 : va_up ad (12 + i) q 1 = ad 1 := va_up_ne _ _ (by omega)
        refine va_astq (r := (RP, FP, 9)) (f := plA 12 i (fun i => i) ad) (vs := z9.set 0 (.int (nI i))) hx hb hK hP hD hS 1 3 (12 + i) 2 (by rw [kw_get (by omega), u1]; simp only [upE]; rw [if_neg (by omega), if_neg (by omega)]; rfl) rfl (by rw [kw_get (by omega), va_up_self]; simp [upE]) rfl (vp_in_nI (N := 8) (by omega) (by omega)) dX_init_104 (fun H locs hP hD hS => ?_)
        rw [nI_clamp (by omega), ← u1, kw_set (by omega) f1 f2] at hP hD
        have had : va_up ad (12 + i) q 0 = h0 := by rw [va_up_ne _ _ (by omega)]; exact had
        refine lv_iinc (v := nI (i + 1)) (lv' := [(1, .int (nI (i + 1))), (0, .ref h0)]) hx hb dX_init_105 hl (k := 1) rfl (nI_i1 i) (by decide) rfl (fun ls hl => ?_)
        refine lv_goto (tgt := 85) hx hb dX_init_108 (by decide) ?_
        exact W.cs (by omega) (by omega) (ih (i + 1) _ (by omega) had (by omega) _ _ hP hD hS ls (lv_sub hl [1, 0] rfl))
  refine lv_iconst (v := 0) hx hb dX_init_83 (by decide) ?_
  refine lv_istore_n (lv' := [(1, .int 0), (0, .ref h0)]) hx hb dX_init_84 rfl hl (by decide) rfl (fun ls hl => ?_)
  exact loop1 9 0 ad0 (by omega) had (by omega) _ _ hP hD hS ls (lv_sub hl [1, 0] rfl)
