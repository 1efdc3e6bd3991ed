/-! the law's loop -/
theorem m_wS_le (μ : MS) (p : Int32) (n : Nat) : (m_wS μ p n).natAbs ≤ n * 2147483648 := by
  induction n with
  | zero => rw [Nat.zero_mul]; exact Nat.le_refl 0
  | succ n ih =>
    simp only [m_wS]
    split
    · exact fp_next _ ih
    · exact Nat.le_trans ih (Nat.mul_le_mul_right _ (Nat.le_succ n))
theorem kl_cmp_w {n c : Nat} {μ : MS} {σ : XS} (h : RC n c μ σ) (p : Int32) : Op.cmpValue (FP.dcmp (e8 (m_wS μ p n)) (e8 (m_wS μ p n))) .l = 0 := by
  have hS := fp_sum (m_wS_le μ p n) h.hn
  rw [cmp_l hS hS, if_neg (by omega), if_pos rfl]
theorem kl_cmp_o {μ : MS} {x : Int32} : Op.cmpValue (FP.dcmp (m_ordinal μ x) (m_ordinal μ x)) .l = 0 := by
  simp only [m_ordinal]
  split
  · rw [e8_0, cmp_l (by unfold fp_S; omega) (by unfold fp_S; omega)]; rfl
  · rw [dcv_l, dcv_self]
section LW
variable {p : Program} {l : Launch} {e : Env} {s : State} {m : MethodId} {args : Array Value} {below : List Frame} {meth : Method} {c : Code} {H : Heap} {locs : List Loc} {Q : State → Prop} {cells slots : Nat}
variable {D : va_G} {cA : Nat → ClassId} {b L : Nat} {xs : Nat → Int32} {ad bd : Nat → Nat}
def kl_C (p : Program) (s : State) (m : MethodId) (args : Array Value) (meth : Method) (c : Code) (D : va_G) (cA : Nat → ClassId) (b L : Nat) (xs : Nat → Int32) (ad bd : Nat → Nat) : Prop :=
  p.tables.exec = Jvm.exec ∧ c.code = code ∧ c.maxLocals = 8 ∧ s.vm.findClass RL = some m.cls ∧ (∀ w ∈ kw_T, w.before args s = true) ∧ va_K D classes (kx_tys cA) s ∧ kx_Z (fun q => s.heap.size ≤ q) s s.heap ∧ kw_J 36 ad ∧ kw_J 24 bd ∧ (∀ k, k < 36 → s.heap.size ≤ ad k) ∧ (∀ k, k < 24 → s.heap.size ≤ bd k) ∧ (∀ i j, i < 36 → j < 24 → ¬ ad i = bd j) ∧ va_X b L xs s s.heap ∧ b < s.heap.size ∧ L ≤ 3072
def kl_N (p : Program) (l : Launch) (e : Env) (s : State) (m : MethodId) (args : Array Value) (below : List Frame) (meth : Method) (c : Code) (cells slots : Nat) (Q : State → Prop) (D : va_G) (cA : Nat → ClassId) (b : Nat) (ad bd : Nat → Nat) (i c0 : Nat) : Prop :=
  ∀ (n1 c1 : Nat) (μ1 : MS) (σ1 : XS) (H : Heap) (locs : List Loc), c1 ≤ c0 + 8 → RZ n1 c1 μ1 σ1 → va_P D classes (kw_W 36 ad (wX cA ad σ1)) H → va_P D classes (kw_W 24 bd (wM cA bd μ1)) H → va_S (fun q => s.heap.size ≤ q) s.heap H locs → ∀ ls : Array Slot, lv_has ls 8 [(0, .ref b), (1, .ref (ad 0)), (2, .ref (bd 0)), (3, .int (nI i))] → W p l e room_1 s m args below meth c H locs cells slots Q (F0 m 726 ls [])
theorem kl_rd {pc i k : Nat} {ls : Array Slot} {rest : List Value} (hx : p.tables.exec = Jvm.exec) (hb : c.code = code) (hX : va_X b L xs s s.heap) (hbl : b < s.heap.size) (hS : va_S (fun q => s.heap.size ≤ q) s.heap H locs) (hL : L ≤ 3072) (hik : i + k < L) {j : Int32} (hj : j = nI (i + k)) (hdg : decode code pc = .ok (.iaload, 1))
    (kk : W p l e room_1 s m args below meth c H locs cells slots Q (F0 m (pc + 1) ls (.int (xs (i + k)) :: rest))) : W p l e room_1 s m args below meth c H locs cells slots Q (F0 m pc ls (.int j :: .ref b :: rest)) := by
  subst hj
  refine va_sld hx hb hX hbl (Nat.not_le.mpr hbl) hS (vp_in_nI hik (by omega)) hdg ?_
  rw [nI_clamp (by omega)]
  exact kk
theorem kl_tab {ls : Array Slot} {x : Int32} {off : Int} {tgt : Nat} (hx : p.tables.exec = Jvm.exec) (hb : c.code = code) {t : Nat} (hxt : x = nI t) (h1 : ¬ (nI t).toInt < 0) (h2 : ¬ 17 < (nI t).toInt) (ho : (#[87, 110, 133, 192, 235, 308, 331, 354, 367, 400, 423, 446, 479, 512, 563, 614, 647, 670] : Array Int)[((nI t).toInt - 0).toNat]? = some off) (ht : (33 : Int) + off = (tgt : Int))
    (k : W p l e room_1 s m args below meth c H locs cells slots Q (F0 m tgt ls [])) : W p l e room_1 s m args below meth c H locs cells slots Q (F0 m 33 ls [.int x]) := by
  subst hxt
  exact lv_tableIn hx hb dL_law_33 h1 h2 ho ht k
theorem kx_topi0 {pc : Nat} {ls : Array Slot} {rest : List Value} {R : Room} {v v' : Int32} (h : v = v') (kk : W p l e R s m args below meth c H locs cells slots Q (F0 m pc ls (.int v' :: rest))) : W p l e R s m args below meth c H locs cells slots Q (F0 m pc ls (.int v :: rest)) := h ▸ kk
theorem kl_bool {pc tgt : Nat} {ls : Array Slot} {rest : List Value} {R : Room} {x : Int32} {o1 o2 : Int} (hx : p.tables.exec = Jvm.exec) (hb : c.code = code) (h0 : decode code pc = .ok (.ifCond .eq o1, 3)) (ht : (pc : Int) + o1 = (tgt : Int)) (h1 : decode code (pc + 3) = .ok (.iconst 1, 1)) (h2 : decode code (pc + 4) = .ok (.goto o2, 3)) (ht2 : ((pc + 4 : Nat) : Int) + o2 = ((tgt + 1 : Nat) : Int)) (h3 : decode code tgt = .ok (.iconst 0, 1))
    (kk : W p l e R s m args below meth c H locs cells slots Q (F0 m (tgt + 1) ls (.int (bI (¬ x = 0)) :: rest))) : W p l e R s m args below meth c H locs cells slots Q (F0 m pc ls (.int x :: rest)) := by
  refine lv_if_eq (tgt := tgt) hx hb h0 ht (fun h => ?_) (fun h => ?_)
  · refine lv_iconst (v := 0) hx hb h3 (by decide) ?_
    rw [bI_f (fun z => z h)] at kk
    exact kk
  · refine lv_iconst (v := 1) hx hb h1 (by decide) ?_
    refine lv_goto (tgt := tgt + 1) hx hb h2 ht2 ?_
    rw [bI_t h] at kk
    exact kk
theorem law_install (C0 : kl_C p s m args meth c D cA b L xs ad bd) {n c0 : Nat} {μ : MS} {σ : XS} (hcb : c0 + 1 < 2 ^ 31) (hR : RZ n c0 μ σ) {i : Nat} (hi : i + 6 ≤ L) (hcl : cells ≤ 600000 ∧ slots ≤ 7302250) (hP : va_P D classes (kw_W 36 ad (wX cA ad σ)) H) (hP2 : va_P D classes (kw_W 24 bd (wM cA bd μ)) H) (hS : va_S (fun q => s.heap.size ≤ q) s.heap H locs) {ls : Array Slot} (hl : lv_has ls 8 [(0, .ref b), (1, .ref (ad 0)), (2, .ref (bd 0)), (3, .int (nI i))])
    (cont : kl_N p l e s m args below meth c cells slots Q D cA b ad bd i c0) : W p l e room_1 s m args below meth c H locs cells slots Q (F0 m 120 ls []) := by
  obtain ⟨hx, hb, hml, hown, hts, hK, hZ, hJX, hJM, hAX, hAM, hap, hX, hbl, hL⟩ := C0
  have hapX : ∀ (E : Nat → va_E) (k : Nat) (q : Nat × va_E), (kw_W 24 bd E)[k]? = some q → ∀ i, i < 36 → ¬ q.1 = ad i := fun E k q hq i hi z => by
    obtain ⟨h1, rfl⟩ := kw_of hq
    exact hap i k hi h1 z.symm
  have hapM : ∀ (E : Nat → va_E) (k : Nat) (q : Nat × va_E), (kw_W 36 ad E)[k]? = some q → ∀ i, i < 24 → ¬ q.1 = bd i := fun E k q hq i hi z => by
    obtain ⟨h1, rfl⟩ := kw_of hq
    exact hap k i h1 hi z
  obtain ⟨eV, hR1⟩ := hR.install (xs (i + 1))
  refine lv_aload_n hx hb dL_law_120 rfl (lv_at hl 1 rfl) ?_
  refine lv_aload_n hx hb dL_law_121 rfl (lv_at hl 0 rfl) ?_
  refine lv_iload_n hx hb dL_law_122 rfl (lv_at hl 3 rfl) ?_
  refine lv_iconst (v := 1) hx hb dL_law_123 (by decide) ?_
  refine lv_iadd hx hb dL_law_124 ?_
  refine kl_rd (k := 1) hx hb hX hbl hS hL (by omega) (nI_add i 1) dL_law_125 ?_
  refine kl_call (n := 1) (As := [.int (xs (i + 1))]) (rest := []) (v := .int ((x_install σ (xs (i + 1))).1)) (σ1 := (x_install σ (xs (i + 1))).2) hx hb hml hown hts hK hZ (fun _ h => h) hJX hAX hP hP2 (hapX _) hS hl.1 (cX_install l D cA hJX σ (xs (i + 1))) wl_139 wl_140 wl_141 wl_1 wl_142 ⟨rfl, by decide +kernel, by decide +kernel, by decide +kernel⟩ ⟨Nat.le_of_ble_eq_true rfl, Nat.le_of_ble_eq_true rfl⟩ ⟨rfl, rfl⟩ (k := 0) (by omega) rfl rfl rfl rfl rfl (Nat.le_of_ble_eq_true rfl) dL_law_126 hcl (fun H locs hP hP2 hS => ?_)
  refine lv_aload_n hx hb dL_law_129 rfl (lv_at hl 2 rfl) ?_
  refine lv_aload_n hx hb dL_law_130 rfl (lv_at hl 0 rfl) ?_
  refine lv_iload_n hx hb dL_law_131 rfl (lv_at hl 3 rfl) ?_
  refine lv_iconst (v := 1) hx hb dL_law_132 (by decide) ?_
  refine lv_iadd hx hb dL_law_133 ?_
  refine kl_rd (k := 1) hx hb hX hbl hS hL (by omega) (nI_add i 1) dL_law_134 ?_
  refine kl_call (n := 1) (As := [.int (xs (i + 1))]) (rest := [.int ((x_install σ (xs (i + 1))).1)]) (v := .int ((m_install μ (xs (i + 1))).1)) (σ1 := (m_install μ (xs (i + 1))).2) hx hb hml hown hts hK hZ (fun _ h => h) hJM hAM hP2 hP (hapM _) hS hl.1 (cM_install l D cA hJM μ (xs (i + 1))) wl_441 wl_442 wl_443 wl_5 wl_444 ⟨rfl, by decide +kernel, by decide +kernel, by decide +kernel⟩ ⟨Nat.le_of_ble_eq_true rfl, Nat.le_of_ble_eq_true rfl⟩ ⟨rfl, rfl⟩ (k := 0) (by omega) rfl rfl rfl rfl rfl (Nat.le_of_ble_eq_true rfl) dL_law_135 hcl (fun H locs hP2 hP hS => ?_)
  refine lv_icmp_eq (tgt := 726) hx hb dL_law_138 (by decide) (fun _ => ?_) (fun q9 => absurd eV q9)
  exact cont n c0 _ _ H locs (by omega) hR1 hP hP2 hS ls hl
theorem law_uninstall (C0 : kl_C p s m args meth c D cA b L xs ad bd) {n c0 : Nat} {μ : MS} {σ : XS} (hcb : c0 + 1 < 2 ^ 31) (hR : RZ n c0 μ σ) {i : Nat} (hi : i + 6 ≤ L) (hcl : cells ≤ 600000 ∧ slots ≤ 7302250) (hP : va_P D classes (kw_W 36 ad (wX cA ad σ)) H) (hP2 : va_P D classes (kw_W 24 bd (wM cA bd μ)) H) (hS : va_S (fun q => s.heap.size ≤ q) s.heap H locs) {ls : Array Slot} (hl : lv_has ls 8 [(0, .ref b), (1, .ref (ad 0)), (2, .ref (bd 0)), (3, .int (nI i))])
    (cont : kl_N p l e s m args below meth c cells slots Q D cA b ad bd i c0) : W p l e room_1 s m args below meth c H locs cells slots Q (F0 m 143 ls []) := by
  obtain ⟨hx, hb, hml, hown, hts, hK, hZ, hJX, hJM, hAX, hAM, hap, hX, hbl, hL⟩ := C0
  have hapX : ∀ (E : Nat → va_E) (k : Nat) (q : Nat × va_E), (kw_W 24 bd E)[k]? = some q → ∀ i, i < 36 → ¬ q.1 = ad i := fun E k q hq i hi z => by
    obtain ⟨h1, rfl⟩ := kw_of hq
    exact hap i k hi h1 z.symm
  have hapM : ∀ (E : Nat → va_E) (k : Nat) (q : Nat × va_E), (kw_W 36 ad E)[k]? = some q → ∀ i, i < 24 → ¬ q.1 = bd i := fun E k q hq i hi z => by
    obtain ⟨h1, rfl⟩ := kw_of hq
    exact hap k i h1 hi z
  obtain ⟨eV, hR1⟩ := hR.uninstall (xs (i + 1))
  refine lv_aload_n hx hb dL_law_143 rfl (lv_at hl 1 rfl) ?_
  refine lv_aload_n hx hb dL_law_144 rfl (lv_at hl 0 rfl) ?_
  refine lv_iload_n hx hb dL_law_145 rfl (lv_at hl 3 rfl) ?_
  refine lv_iconst (v := 1) hx hb dL_law_146 (by decide) ?_
  refine lv_iadd hx hb dL_law_147 ?_
  refine kl_rd (k := 1) hx hb hX hbl hS hL (by omega) (nI_add i 1) dL_law_148 ?_
  refine kl_call (n := 1) (As := [.int (xs (i + 1))]) (rest := []) (v := .int ((x_uninstall σ (xs (i + 1))).1)) (σ1 := (x_uninstall σ (xs (i + 1))).2) hx hb hml hown hts hK hZ (fun _ h => h) hJX hAX hP hP2 (hapX _) hS hl.1 (cX_uninstall l D cA hJX σ (xs (i + 1)) hR.1.od.lt) wl_146 wl_147 wl_148 wl_1 wl_149 ⟨rfl, by decide +kernel, by decide +kernel, by decide +kernel⟩ ⟨Nat.le_of_ble_eq_true rfl, Nat.le_of_ble_eq_true rfl⟩ ⟨rfl, rfl⟩ (k := 0) (by omega) rfl rfl rfl rfl rfl (Nat.le_of_ble_eq_true rfl) dL_law_149 hcl (fun H locs hP hP2 hS => ?_)
  refine lv_aload_n hx hb dL_law_152 rfl (lv_at hl 2 rfl) ?_
  refine lv_aload_n hx hb dL_law_153 rfl (lv_at hl 0 rfl) ?_
  refine lv_iload_n hx hb dL_law_154 rfl (lv_at hl 3 rfl) ?_
  refine lv_iconst (v := 1) hx hb dL_law_155 (by decide) ?_
  refine lv_iadd hx hb dL_law_156 ?_
  refine kl_rd (k := 1) hx hb hX hbl hS hL (by omega) (nI_add i 1) dL_law_157 ?_
  refine kl_call (n := 1) (As := [.int (xs (i + 1))]) (rest := [.int ((x_uninstall σ (xs (i + 1))).1)]) (v := .int ((m_uninstall μ (xs (i + 1))).1)) (σ1 := (m_uninstall μ (xs (i + 1))).2) hx hb hml hown hts hK hZ (fun _ h => h) hJM hAM hP2 hP (hapM _) hS hl.1 (cM_uninstall l D cA hJM μ (xs (i + 1)) n hR.1.hn hR.1.n1) wl_448 wl_449 wl_450 wl_5 wl_451 ⟨rfl, by decide +kernel, by decide +kernel, by decide +kernel⟩ ⟨Nat.le_of_ble_eq_true rfl, Nat.le_of_ble_eq_true rfl⟩ ⟨rfl, rfl⟩ (k := 0) (by omega) rfl rfl rfl rfl rfl (Nat.le_of_ble_eq_true rfl) dL_law_158 hcl (fun H locs hP2 hP hS => ?_)
  refine lv_icmp_eq (tgt := 726) hx hb dL_law_161 (by decide) (fun _ => ?_) (fun q9 => absurd eV q9)
  exact cont n c0 _ _ H locs (by omega) hR1 hP hP2 hS ls hl
theorem law_need (C0 : kl_C p s m args meth c D cA b L xs ad bd) {n c0 : Nat} {μ : MS} {σ : XS} (hcb : c0 + 1 < 2 ^ 31) (hR : RZ n c0 μ σ) {i : Nat} (hi : i + 6 ≤ L) (hcl : cells ≤ 600000 ∧ slots ≤ 7302250) (hP : va_P D classes (kw_W 36 ad (wX cA ad σ)) H) (hP2 : va_P D classes (kw_W 24 bd (wM cA bd μ)) H) (hS : va_S (fun q => s.heap.size ≤ q) s.heap H locs) {ls : Array Slot} (hl : lv_has ls 8 [(0, .ref b), (1, .ref (ad 0)), (2, .ref (bd 0)), (3, .int (nI i))])
    (cont : kl_N p l e s m args below meth c cells slots Q D cA b ad bd i c0) : W p l e room_1 s m args below meth c H locs cells slots Q (F0 m 166 ls []) := by
  obtain ⟨hx, hb, hml, hown, hts, hK, hZ, hJX, hJM, hAX, hAM, hap, hX, hbl, hL⟩ := C0
  have hapX : ∀ (E : Nat → va_E) (k : Nat) (q : Nat × va_E), (kw_W 24 bd E)[k]? = some q → ∀ i, i < 36 → ¬ q.1 = ad i := fun E k q hq i hi z => by
    obtain ⟨h1, rfl⟩ := kw_of hq
    exact hap i k hi h1 z.symm
  have hapM : ∀ (E : Nat → va_E) (k : Nat) (q : Nat × va_E), (kw_W 36 ad E)[k]? = some q → ∀ i, i < 24 → ¬ q.1 = bd i := fun E k q hq i hi z => by
    obtain ⟨h1, rfl⟩ := kw_of hq
    exact hap k i h1 hi z
  obtain ⟨eV, hR1⟩ := hR.need (xs (i + 1)) (xs (i + 2)) (bI (¬ xs (i + 3) = 0))
  refine lv_aload_n hx hb dL_law_166 rfl (lv_at hl 1 rfl) ?_
  refine lv_aload_n hx hb dL_law_167 rfl (lv_at hl 0 rfl) ?_
  refine lv_iload_n hx hb dL_law_168 rfl (lv_at hl 3 rfl) ?_
  refine lv_iconst (v := 1) hx hb dL_law_169 (by decide) ?_
  refine lv_iadd hx hb dL_law_170 ?_
  refine kl_rd (k := 1) hx hb hX hbl hS hL (by omega) (nI_add i 1) dL_law_171 ?_
  refine lv_aload_n hx hb dL_law_172 rfl (lv_at hl 0 rfl) ?_
  refine lv_iload_n hx hb dL_law_173 rfl (lv_at hl 3 rfl) ?_
  refine lv_iconst (v := 2) hx hb dL_law_174 (by decide) ?_
  refine lv_iadd hx hb dL_law_175 ?_
  refine kl_rd (k := 2) hx hb hX hbl hS hL (by omega) (nI_add i 2) dL_law_176 ?_
  refine lv_aload_n hx hb dL_law_177 rfl (lv_at hl 0 rfl) ?_
  refine lv_iload_n hx hb dL_law_178 rfl (lv_at hl 3 rfl) ?_
  refine lv_iconst (v := 3) hx hb dL_law_179 (by decide) ?_
  refine lv_iadd hx hb dL_law_180 ?_
  refine kl_rd (k := 3) hx hb hX hbl hS hL (by omega) (nI_add i 3) dL_law_181 ?_
  refine kl_bool (tgt := 189) hx hb dL_law_182 (by decide) dL_law_185 dL_law_186 (by decide) dL_law_189 ?_
  refine kl_call (n := 3) (As := [.int (xs (i + 1)), .int (xs (i + 2)), .int (bI (¬ xs (i + 3) = 0))]) (rest := []) (v := .int ((x_need σ (xs (i + 1)) (xs (i + 2)) (bI (¬ xs (i + 3) = 0))).1)) (σ1 := (x_need σ (xs (i + 1)) (xs (i + 2)) (bI (¬ xs (i + 3) = 0))).2) hx hb hml hown hts hK hZ (fun _ h => h) hJX hAX hP hP2 (hapX _) hS hl.1 (cX_need l D cA hJX σ (xs (i + 1)) (xs (i + 2)) (bI (¬ xs (i + 3) = 0))) wl_154 wl_155 wl_156 wl_1 wl_157 ⟨rfl, by decide +kernel, by decide +kernel, by decide +kernel⟩ ⟨Nat.le_of_ble_eq_true rfl, Nat.le_of_ble_eq_true rfl⟩ ⟨rfl, rfl⟩ (k := 0) (by omega) rfl rfl rfl rfl rfl (Nat.le_of_ble_eq_true rfl) dL_law_190 hcl (fun H locs hP hP2 hS => ?_)
  refine lv_aload_n hx hb dL_law_193 rfl (lv_at hl 2 rfl) ?_
  refine lv_aload_n hx hb dL_law_194 rfl (lv_at hl 0 rfl) ?_
  refine lv_iload_n hx hb dL_law_195 rfl (lv_at hl 3 rfl) ?_
  refine lv_iconst (v := 1) hx hb dL_law_196 (by decide) ?_
  refine lv_iadd hx hb dL_law_197 ?_
  refine kl_rd (k := 1) hx hb hX hbl hS hL (by omega) (nI_add i 1) dL_law_198 ?_
  refine lv_aload_n hx hb dL_law_199 rfl (lv_at hl 0 rfl) ?_
  refine lv_iload_n hx hb dL_law_200 rfl (lv_at hl 3 rfl) ?_
  refine lv_iconst (v := 2) hx hb dL_law_201 (by decide) ?_
  refine lv_iadd hx hb dL_law_202 ?_
  refine kl_rd (k := 2) hx hb hX hbl hS hL (by omega) (nI_add i 2) dL_law_203 ?_
  refine lv_aload_n hx hb dL_law_204 rfl (lv_at hl 0 rfl) ?_
  refine lv_iload_n hx hb dL_law_205 rfl (lv_at hl 3 rfl) ?_
  refine lv_iconst (v := 3) hx hb dL_law_206 (by decide) ?_
  refine lv_iadd hx hb dL_law_207 ?_
  refine kl_rd (k := 3) hx hb hX hbl hS hL (by omega) (nI_add i 3) dL_law_208 ?_
  refine kl_bool (tgt := 216) hx hb dL_law_209 (by decide) dL_law_212 dL_law_213 (by decide) dL_law_216 ?_
  refine kl_call (n := 3) (As := [.int (xs (i + 1)), .int (xs (i + 2)), .int (bI (¬ xs (i + 3) = 0))]) (rest := [.int ((x_need σ (xs (i + 1)) (xs (i + 2)) (bI (¬ xs (i + 3) = 0))).1)]) (v := .int ((m_need μ (xs (i + 1)) (xs (i + 2)) (bI (¬ xs (i + 3) = 0))).1)) (σ1 := (m_need μ (xs (i + 1)) (xs (i + 2)) (bI (¬ xs (i + 3) = 0))).2) hx hb hml hown hts hK hZ (fun _ h => h) hJM hAM hP2 hP (hapM _) hS hl.1 (cM_need l D cA hJM μ (xs (i + 1)) (xs (i + 2)) (bI (¬ xs (i + 3) = 0))) wl_452 wl_453 wl_454 wl_5 wl_455 ⟨rfl, by decide +kernel, by decide +kernel, by decide +kernel⟩ ⟨Nat.le_of_ble_eq_true rfl, Nat.le_of_ble_eq_true rfl⟩ ⟨rfl, rfl⟩ (k := 0) (by omega) rfl rfl rfl rfl rfl (Nat.le_of_ble_eq_true rfl) dL_law_217 hcl (fun H locs hP2 hP hS => ?_)
  refine lv_icmp_eq (tgt := 726) hx hb dL_law_220 (by decide) (fun _ => ?_) (fun q9 => absurd eV q9)
  exact cont n c0 _ _ H locs (by omega) hR1 hP hP2 hS ls hl
theorem law_serve (C0 : kl_C p s m args meth c D cA b L xs ad bd) {n c0 : Nat} {μ : MS} {σ : XS} (hcb : c0 + 1 < 2 ^ 31) (hR : RZ n c0 μ σ) {i : Nat} (hi : i + 6 ≤ L) (hcl : cells ≤ 600000 ∧ slots ≤ 7302250) (hP : va_P D classes (kw_W 36 ad (wX cA ad σ)) H) (hP2 : va_P D classes (kw_W 24 bd (wM cA bd μ)) H) (hS : va_S (fun q => s.heap.size ≤ q) s.heap H locs) {ls : Array Slot} (hl : lv_has ls 8 [(0, .ref b), (1, .ref (ad 0)), (2, .ref (bd 0)), (3, .int (nI i))])
    (cont : kl_N p l e s m args below meth c cells slots Q D cA b ad bd i c0) : W p l e room_1 s m args below meth c H locs cells slots Q (F0 m 225 ls []) := by
  obtain ⟨hx, hb, hml, hown, hts, hK, hZ, hJX, hJM, hAX, hAM, hap, hX, hbl, hL⟩ := C0
  have hapX : ∀ (E : Nat → va_E) (k : Nat) (q : Nat × va_E), (kw_W 24 bd E)[k]? = some q → ∀ i, i < 36 → ¬ q.1 = ad i := fun E k q hq i hi z => by
    obtain ⟨h1, rfl⟩ := kw_of hq
    exact hap i k hi h1 z.symm
  have hapM : ∀ (E : Nat → va_E) (k : Nat) (q : Nat × va_E), (kw_W 36 ad E)[k]? = some q → ∀ i, i < 24 → ¬ q.1 = bd i := fun E k q hq i hi z => by
    obtain ⟨h1, rfl⟩ := kw_of hq
    exact hap k i h1 hi z
  obtain ⟨eV, hR1⟩ := hR.serve (xs (i + 1)) (xs (i + 2)) (xs (i + 3))
  refine lv_aload_n hx hb dL_law_225 rfl (lv_at hl 1 rfl) ?_
  refine lv_aload_n hx hb dL_law_226 rfl (lv_at hl 0 rfl) ?_
  refine lv_iload_n hx hb dL_law_227 rfl (lv_at hl 3 rfl) ?_
  refine lv_iconst (v := 1) hx hb dL_law_228 (by decide) ?_
  refine lv_iadd hx hb dL_law_229 ?_
  refine kl_rd (k := 1) hx hb hX hbl hS hL (by omega) (nI_add i 1) dL_law_230 ?_
  refine lv_aload_n hx hb dL_law_231 rfl (lv_at hl 0 rfl) ?_
  refine lv_iload_n hx hb dL_law_232 rfl (lv_at hl 3 rfl) ?_
  refine lv_iconst (v := 2) hx hb dL_law_233 (by decide) ?_
  refine lv_iadd hx hb dL_law_234 ?_
  refine kl_rd (k := 2) hx hb hX hbl hS hL (by omega) (nI_add i 2) dL_law_235 ?_
  refine lv_aload_n hx hb dL_law_236 rfl (lv_at hl 0 rfl) ?_
  refine lv_iload_n hx hb dL_law_237 rfl (lv_at hl 3 rfl) ?_
  refine lv_iconst (v := 3) hx hb dL_law_238 (by decide) ?_
  refine lv_iadd hx hb dL_law_239 ?_
  refine kl_rd (k := 3) hx hb hX hbl hS hL (by omega) (nI_add i 3) dL_law_240 ?_
  refine kl_call (n := 3) (As := [.int (xs (i + 1)), .int (xs (i + 2)), .int (xs (i + 3))]) (rest := []) (v := .int ((x_serve σ (xs (i + 1)) (xs (i + 2)) (xs (i + 3))).1)) (σ1 := (x_serve σ (xs (i + 1)) (xs (i + 2)) (xs (i + 3))).2) hx hb hml hown hts hK hZ (fun _ h => h) hJX hAX hP hP2 (hapX _) hS hl.1 (cX_serve l D cA hJX σ (xs (i + 1)) (xs (i + 2)) (xs (i + 3))) wl_176 wl_177 wl_178 wl_1 wl_179 ⟨rfl, by decide +kernel, by decide +kernel, by decide +kernel⟩ ⟨Nat.le_of_ble_eq_true rfl, Nat.le_of_ble_eq_true rfl⟩ ⟨rfl, rfl⟩ (k := 0) (by omega) rfl rfl rfl rfl rfl (Nat.le_of_ble_eq_true rfl) dL_law_241 hcl (fun H locs hP hP2 hS => ?_)
  refine lv_aload_n hx hb dL_law_244 rfl (lv_at hl 2 rfl) ?_
  refine lv_aload_n hx hb dL_law_245 rfl (lv_at hl 0 rfl) ?_
  refine lv_iload_n hx hb dL_law_246 rfl (lv_at hl 3 rfl) ?_
  refine lv_iconst (v := 1) hx hb dL_law_247 (by decide) ?_
  refine lv_iadd hx hb dL_law_248 ?_
  refine kl_rd (k := 1) hx hb hX hbl hS hL (by omega) (nI_add i 1) dL_law_249 ?_
  refine lv_aload_n hx hb dL_law_250 rfl (lv_at hl 0 rfl) ?_
  refine lv_iload_n hx hb dL_law_251 rfl (lv_at hl 3 rfl) ?_
  refine lv_iconst (v := 2) hx hb dL_law_252 (by decide) ?_
  refine lv_iadd hx hb dL_law_253 ?_
  refine kl_rd (k := 2) hx hb hX hbl hS hL (by omega) (nI_add i 2) dL_law_254 ?_
  refine lv_aload_n hx hb dL_law_255 rfl (lv_at hl 0 rfl) ?_
  refine lv_iload_n hx hb dL_law_256 rfl (lv_at hl 3 rfl) ?_
  refine lv_iconst (v := 3) hx hb dL_law_257 (by decide) ?_
  refine lv_iadd hx hb dL_law_258 ?_
  refine kl_rd (k := 3) hx hb hX hbl hS hL (by omega) (nI_add i 3) dL_law_259 ?_
  refine kl_call (n := 3) (As := [.int (xs (i + 1)), .int (xs (i + 2)), .int (xs (i + 3))]) (rest := [.int ((x_serve σ (xs (i + 1)) (xs (i + 2)) (xs (i + 3))).1)]) (v := .int ((m_serve μ (xs (i + 1)) (xs (i + 2)) (xs (i + 3))).1)) (σ1 := (m_serve μ (xs (i + 1)) (xs (i + 2)) (xs (i + 3))).2) hx hb hml hown hts hK hZ (fun _ h => h) hJM hAM hP2 hP (hapM _) hS hl.1 (cM_serve l D cA hJM μ (xs (i + 1)) (xs (i + 2)) (xs (i + 3))) wl_463 wl_464 wl_465 wl_5 wl_466 ⟨rfl, by decide +kernel, by decide +kernel, by decide +kernel⟩ ⟨Nat.le_of_ble_eq_true rfl, Nat.le_of_ble_eq_true rfl⟩ ⟨rfl, rfl⟩ (k := 0) (by omega) rfl rfl rfl rfl rfl (Nat.le_of_ble_eq_true rfl) dL_law_260 hcl (fun H locs hP2 hP hS => ?_)
  refine lv_icmp_eq (tgt := 726) hx hb dL_law_263 (by decide) (fun _ => ?_) (fun q9 => absurd eV q9)
  exact cont n c0 _ _ H locs (by omega) hR1 hP hP2 hS ls hl
theorem law_extend (C0 : kl_C p s m args meth c D cA b L xs ad bd) {n c0 : Nat} {μ : MS} {σ : XS} (hcb : c0 + 1 < 2 ^ 31) (hR : RZ n c0 μ σ) {i : Nat} (hi : i + 6 ≤ L) (hcl : cells ≤ 600000 ∧ slots ≤ 7302250) (hP : va_P D classes (kw_W 36 ad (wX cA ad σ)) H) (hP2 : va_P D classes (kw_W 24 bd (wM cA bd μ)) H) (hS : va_S (fun q => s.heap.size ≤ q) s.heap H locs) {ls : Array Slot} (hl : lv_has ls 8 [(0, .ref b), (1, .ref (ad 0)), (2, .ref (bd 0)), (3, .int (nI i))])
    (cont : kl_N p l e s m args below meth c cells slots Q D cA b ad bd i c0) : W p l e room_1 s m args below meth c H locs cells slots Q (F0 m 268 ls []) := by
  obtain ⟨hx, hb, hml, hown, hts, hK, hZ, hJX, hJM, hAX, hAM, hap, hX, hbl, hL⟩ := C0
  have hapX : ∀ (E : Nat → va_E) (k : Nat) (q : Nat × va_E), (kw_W 24 bd E)[k]? = some q → ∀ i, i < 36 → ¬ q.1 = ad i := fun E k q hq i hi z => by
    obtain ⟨h1, rfl⟩ := kw_of hq
    exact hap i k hi h1 z.symm
  have hapM : ∀ (E : Nat → va_E) (k : Nat) (q : Nat × va_E), (kw_W 36 ad E)[k]? = some q → ∀ i, i < 24 → ¬ q.1 = bd i := fun E k q hq i hi z => by
    obtain ⟨h1, rfl⟩ := kw_of hq
    exact hap k i h1 hi z
  obtain ⟨eV, n1, hR1⟩ := hR.extend (xs (i + 1)) (xs (i + 2)) (xs (i + 3)) (xs (i + 4)) (xs (i + 5))
  refine lv_aload_n hx hb dL_law_268 rfl (lv_at hl 1 rfl) ?_
  refine lv_aload_n hx hb dL_law_269 rfl (lv_at hl 0 rfl) ?_
  refine lv_iload_n hx hb dL_law_270 rfl (lv_at hl 3 rfl) ?_
  refine lv_iconst (v := 1) hx hb dL_law_271 (by decide) ?_
  refine lv_iadd hx hb dL_law_272 ?_
  refine kl_rd (k := 1) hx hb hX hbl hS hL (by omega) (nI_add i 1) dL_law_273 ?_
  refine lv_aload_n hx hb dL_law_274 rfl (lv_at hl 0 rfl) ?_
  refine lv_iload_n hx hb dL_law_275 rfl (lv_at hl 3 rfl) ?_
  refine lv_iconst (v := 2) hx hb dL_law_276 (by decide) ?_
  refine lv_iadd hx hb dL_law_277 ?_
  refine kl_rd (k := 2) hx hb hX hbl hS hL (by omega) (nI_add i 2) dL_law_278 ?_
  refine lv_aload_n hx hb dL_law_279 rfl (lv_at hl 0 rfl) ?_
  refine lv_iload_n hx hb dL_law_280 rfl (lv_at hl 3 rfl) ?_
  refine lv_iconst (v := 3) hx hb dL_law_281 (by decide) ?_
  refine lv_iadd hx hb dL_law_282 ?_
  refine kl_rd (k := 3) hx hb hX hbl hS hL (by omega) (nI_add i 3) dL_law_283 ?_
  refine lv_aload_n hx hb dL_law_284 rfl (lv_at hl 0 rfl) ?_
  refine lv_iload_n hx hb dL_law_285 rfl (lv_at hl 3 rfl) ?_
  refine lv_iconst (v := 4) hx hb dL_law_286 (by decide) ?_
  refine lv_iadd hx hb dL_law_287 ?_
  refine kl_rd (k := 4) hx hb hX hbl hS hL (by omega) (nI_add i 4) dL_law_288 ?_
  refine lv_aload_n hx hb dL_law_289 rfl (lv_at hl 0 rfl) ?_
  refine lv_iload_n hx hb dL_law_290 rfl (lv_at hl 3 rfl) ?_
  refine lv_iconst (v := 5) hx hb dL_law_291 (by decide) ?_
  refine lv_iadd hx hb dL_law_292 ?_
  refine kl_rd (k := 5) hx hb hX hbl hS hL (by omega) (nI_add i 5) dL_law_293 ?_
  refine lv_i2d hx hb dL_law_294 ?_
  refine lv_ldc2d (v := 4593671619917905920) hx hb hown (hts _ wl_583) dL_law_295 ?_
  refine lv_dmul hx hb dL_law_298 (d8_vf _) ?_
  refine kl_call (n := 5) (As := [.int (xs (i + 1)), .int (xs (i + 2)), .int (xs (i + 3)), .int (xs (i + 4)), .double (d8 (xs (i + 5)))]) (rest := []) (v := .int ((x_extend σ (xs (i + 1)) (xs (i + 2)) (xs (i + 3)) (xs (i + 4)) (xs (i + 5))).1)) (σ1 := (x_extend σ (xs (i + 1)) (xs (i + 2)) (xs (i + 3)) (xs (i + 4)) (xs (i + 5))).2) hx hb hml hown hts hK hZ (fun _ h => h) hJX hAX hP hP2 (hapX _) hS hl.1 (cX_extend l D cA hJX σ (xs (i + 1)) (xs (i + 2)) (xs (i + 3)) (xs (i + 4)) (xs (i + 5)) n hR.1.hn hR.1.n2 hR.1.od.lt) wl_180 wl_181 wl_182 wl_1 wl_183 ⟨rfl, by decide +kernel, by decide +kernel, by decide +kernel⟩ ⟨Nat.le_of_ble_eq_true rfl, Nat.le_of_ble_eq_true rfl⟩ ⟨rfl, rfl⟩ (k := 0) (by omega) rfl rfl rfl rfl rfl (Nat.le_of_ble_eq_true rfl) dL_law_299 hcl (fun H locs hP hP2 hS => ?_)
  refine lv_aload_n hx hb dL_law_302 rfl (lv_at hl 2 rfl) ?_
  refine lv_aload_n hx hb dL_law_303 rfl (lv_at hl 0 rfl) ?_
  refine lv_iload_n hx hb dL_law_304 rfl (lv_at hl 3 rfl) ?_
  refine lv_iconst (v := 1) hx hb dL_law_305 (by decide) ?_
  refine lv_iadd hx hb dL_law_306 ?_
  refine kl_rd (k := 1) hx hb hX hbl hS hL (by omega) (nI_add i 1) dL_law_307 ?_
  refine lv_aload_n hx hb dL_law_308 rfl (lv_at hl 0 rfl) ?_
  refine lv_iload_n hx hb dL_law_309 rfl (lv_at hl 3 rfl) ?_
  refine lv_iconst (v := 2) hx hb dL_law_310 (by decide) ?_
  refine lv_iadd hx hb dL_law_311 ?_
  refine kl_rd (k := 2) hx hb hX hbl hS hL (by omega) (nI_add i 2) dL_law_312 ?_
  refine lv_aload_n hx hb dL_law_313 rfl (lv_at hl 0 rfl) ?_
  refine lv_iload_n hx hb dL_law_314 rfl (lv_at hl 3 rfl) ?_
  refine lv_iconst (v := 3) hx hb dL_law_315 (by decide) ?_
  refine lv_iadd hx hb dL_law_316 ?_
  refine kl_rd (k := 3) hx hb hX hbl hS hL (by omega) (nI_add i 3) dL_law_317 ?_
  refine lv_aload_n hx hb dL_law_318 rfl (lv_at hl 0 rfl) ?_
  refine lv_iload_n hx hb dL_law_319 rfl (lv_at hl 3 rfl) ?_
  refine lv_iconst (v := 4) hx hb dL_law_320 (by decide) ?_
  refine lv_iadd hx hb dL_law_321 ?_
  refine kl_rd (k := 4) hx hb hX hbl hS hL (by omega) (nI_add i 4) dL_law_322 ?_
  refine lv_aload_n hx hb dL_law_323 rfl (lv_at hl 0 rfl) ?_
  refine lv_iload_n hx hb dL_law_324 rfl (lv_at hl 3 rfl) ?_
  refine lv_iconst (v := 5) hx hb dL_law_325 (by decide) ?_
  refine lv_iadd hx hb dL_law_326 ?_
  refine kl_rd (k := 5) hx hb hX hbl hS hL (by omega) (nI_add i 5) dL_law_327 ?_
  refine lv_i2d hx hb dL_law_328 ?_
  refine lv_ldc2d (v := 4593671619917905920) hx hb hown (hts _ wl_583) dL_law_329 ?_
  refine lv_dmul hx hb dL_law_332 (d8_vf _) ?_
  refine kl_call (n := 5) (As := [.int (xs (i + 1)), .int (xs (i + 2)), .int (xs (i + 3)), .int (xs (i + 4)), .double (d8 (xs (i + 5)))]) (rest := [.int ((x_extend σ (xs (i + 1)) (xs (i + 2)) (xs (i + 3)) (xs (i + 4)) (xs (i + 5))).1)]) (v := .int ((m_extend μ (xs (i + 1)) (xs (i + 2)) (xs (i + 3)) (xs (i + 4)) (xs (i + 5))).1)) (σ1 := (m_extend μ (xs (i + 1)) (xs (i + 2)) (xs (i + 3)) (xs (i + 4)) (xs (i + 5))).2) hx hb hml hown hts hK hZ (fun _ h => h) hJM hAM hP2 hP (hapM _) hS hl.1 (cM_extend l D cA hJM μ (xs (i + 1)) (xs (i + 2)) (xs (i + 3)) (xs (i + 4)) (xs (i + 5)) n hR.1.hn hR.1.n1) wl_467 wl_468 wl_469 wl_5 wl_470 ⟨rfl, by decide +kernel, by decide +kernel, by decide +kernel⟩ ⟨Nat.le_of_ble_eq_true rfl, Nat.le_of_ble_eq_true rfl⟩ ⟨rfl, rfl⟩ (k := 0) (by omega) rfl rfl rfl rfl rfl (Nat.le_of_ble_eq_true rfl) dL_law_333 hcl (fun H locs hP2 hP hS => ?_)
  refine lv_icmp_eq (tgt := 726) hx hb dL_law_336 (by decide) (fun _ => ?_) (fun q9 => absurd eV q9)
  exact cont n1 c0 _ _ H locs (by omega) hR1 hP hP2 hS ls hl
theorem law_start (C0 : kl_C p s m args meth c D cA b L xs ad bd) {n c0 : Nat} {μ : MS} {σ : XS} (hcb : c0 + 1 < 2 ^ 31) (hR : RZ n c0 μ σ) {i : Nat} (hi : i + 6 ≤ L) (hcl : cells ≤ 600000 ∧ slots ≤ 7302250) (hP : va_P D classes (kw_W 36 ad (wX cA ad σ)) H) (hP2 : va_P D classes (kw_W 24 bd (wM cA bd μ)) H) (hS : va_S (fun q => s.heap.size ≤ q) s.heap H locs) {ls : Array Slot} (hl : lv_has ls 8 [(0, .ref b), (1, .ref (ad 0)), (2, .ref (bd 0)), (3, .int (nI i))])
    (cont : kl_N p l e s m args below meth c cells slots Q D cA b ad bd i c0) : W p l e room_1 s m args below meth c H locs cells slots Q (F0 m 341 ls []) := by
  obtain ⟨hx, hb, hml, hown, hts, hK, hZ, hJX, hJM, hAX, hAM, hap, hX, hbl, hL⟩ := C0
  have hapX : ∀ (E : Nat → va_E) (k : Nat) (q : Nat × va_E), (kw_W 24 bd E)[k]? = some q → ∀ i, i < 36 → ¬ q.1 = ad i := fun E k q hq i hi z => by
    obtain ⟨h1, rfl⟩ := kw_of hq
    exact hap i k hi h1 z.symm
  have hapM : ∀ (E : Nat → va_E) (k : Nat) (q : Nat × va_E), (kw_W 36 ad E)[k]? = some q → ∀ i, i < 24 → ¬ q.1 = bd i := fun E k q hq i hi z => by
    obtain ⟨h1, rfl⟩ := kw_of hq
    exact hap k i h1 hi z
  obtain ⟨c1, U, hst, hR1, hc1⟩ := hR.start (xs (i + 1)); have eV : (x_start σ (xs (i + 1))).1 = (x_start σ (xs (i + 1))).1 := rfl
  refine lv_aload_n hx hb dL_law_341 rfl (lv_at hl 1 rfl) ?_
  refine lv_aload_n hx hb dL_law_342 rfl (lv_at hl 0 rfl) ?_
  refine lv_iload_n hx hb dL_law_343 rfl (lv_at hl 3 rfl) ?_
  refine lv_iconst (v := 1) hx hb dL_law_344 (by decide) ?_
  refine lv_iadd hx hb dL_law_345 ?_
  refine kl_rd (k := 1) hx hb hX hbl hS hL (by omega) (nI_add i 1) dL_law_346 ?_
  refine kl_call (n := 1) (As := [.int (xs (i + 1))]) (rest := []) (v := .int ((x_start σ (xs (i + 1))).1)) (σ1 := (x_start σ (xs (i + 1))).2) hx hb hml hown hts hK hZ (fun _ h => h) hJX hAX hP hP2 (hapX _) hS hl.1 (cX_start l D cA hJX σ (xs (i + 1))) wl_194 wl_195 wl_196 wl_1 wl_197 ⟨rfl, by decide +kernel, by decide +kernel, by decide +kernel⟩ ⟨Nat.le_of_ble_eq_true rfl, Nat.le_of_ble_eq_true rfl⟩ ⟨rfl, rfl⟩ (k := 0) (by omega) rfl rfl rfl rfl rfl (Nat.le_of_ble_eq_true rfl) dL_law_347 hcl (fun H locs hP hP2 hS => ?_)
  refine lv_aload_n hx hb dL_law_350 rfl (lv_at hl 2 rfl) ?_
  refine lv_aload_n hx hb dL_law_351 rfl (lv_at hl 0 rfl) ?_
  refine lv_iload_n hx hb dL_law_352 rfl (lv_at hl 3 rfl) ?_
  refine lv_iconst (v := 1) hx hb dL_law_353 (by decide) ?_
  refine lv_iadd hx hb dL_law_354 ?_
  refine kl_rd (k := 1) hx hb hX hbl hS hL (by omega) (nI_add i 1) dL_law_355 ?_
  refine kl_call (n := 1) (As := [.int (xs (i + 1))]) (rest := [.int ((x_start σ (xs (i + 1))).1)]) (v := .int ((x_start σ (xs (i + 1))).1)) (σ1 := U) hx hb hml hown hts hK hZ (fun _ h => h) hJM hAM hP2 hP (hapM _) hS hl.1 (cM_start l D cA hJM μ (xs (i + 1)) (x_start σ (xs (i + 1))).1 U hst) wl_472 wl_473 wl_474 wl_5 wl_475 ⟨rfl, by decide +kernel, by decide +kernel, by decide +kernel⟩ ⟨Nat.le_of_ble_eq_true rfl, Nat.le_of_ble_eq_true rfl⟩ ⟨rfl, rfl⟩ (k := 0) (by omega) rfl rfl rfl rfl rfl (Nat.le_of_ble_eq_true rfl) dL_law_356 hcl (fun H locs hP2 hP hS => ?_)
  refine lv_icmp_eq (tgt := 726) hx hb dL_law_359 (by decide) (fun _ => ?_) (fun q9 => absurd eV q9)
  exact cont n c1 _ _ H locs (by omega) hR1 hP hP2 hS ls hl
theorem law_stop (C0 : kl_C p s m args meth c D cA b L xs ad bd) {n c0 : Nat} {μ : MS} {σ : XS} (hcb : c0 + 1 < 2 ^ 31) (hR : RZ n c0 μ σ) {i : Nat} (hi : i + 6 ≤ L) (hcl : cells ≤ 600000 ∧ slots ≤ 7302250) (hP : va_P D classes (kw_W 36 ad (wX cA ad σ)) H) (hP2 : va_P D classes (kw_W 24 bd (wM cA bd μ)) H) (hS : va_S (fun q => s.heap.size ≤ q) s.heap H locs) {ls : Array Slot} (hl : lv_has ls 8 [(0, .ref b), (1, .ref (ad 0)), (2, .ref (bd 0)), (3, .int (nI i))])
    (cont : kl_N p l e s m args below meth c cells slots Q D cA b ad bd i c0) : W p l e room_1 s m args below meth c H locs cells slots Q (F0 m 364 ls []) := by
  obtain ⟨hx, hb, hml, hown, hts, hK, hZ, hJX, hJM, hAX, hAM, hap, hX, hbl, hL⟩ := C0
  have hapX : ∀ (E : Nat → va_E) (k : Nat) (q : Nat × va_E), (kw_W 24 bd E)[k]? = some q → ∀ i, i < 36 → ¬ q.1 = ad i := fun E k q hq i hi z => by
    obtain ⟨h1, rfl⟩ := kw_of hq
    exact hap i k hi h1 z.symm
  have hapM : ∀ (E : Nat → va_E) (k : Nat) (q : Nat × va_E), (kw_W 36 ad E)[k]? = some q → ∀ i, i < 24 → ¬ q.1 = bd i := fun E k q hq i hi z => by
    obtain ⟨h1, rfl⟩ := kw_of hq
    exact hap k i h1 hi z
  obtain ⟨U, hst, hR1⟩ := hR.stop (by omega) (xs (i + 1)); have eV : (x_stop σ (xs (i + 1))).1 = (x_stop σ (xs (i + 1))).1 := rfl
  refine lv_aload_n hx hb dL_law_364 rfl (lv_at hl 1 rfl) ?_
  refine lv_aload_n hx hb dL_law_365 rfl (lv_at hl 0 rfl) ?_
  refine lv_iload_n hx hb dL_law_366 rfl (lv_at hl 3 rfl) ?_
  refine lv_iconst (v := 1) hx hb dL_law_367 (by decide) ?_
  refine lv_iadd hx hb dL_law_368 ?_
  refine kl_rd (k := 1) hx hb hX hbl hS hL (by omega) (nI_add i 1) dL_law_369 ?_
  refine kl_call (n := 1) (As := [.int (xs (i + 1))]) (rest := []) (v := .int ((x_stop σ (xs (i + 1))).1)) (σ1 := (x_stop σ (xs (i + 1))).2) hx hb hml hown hts hK hZ (fun _ h => h) hJX hAX hP hP2 (hapX _) hS hl.1 (cX_stop l D cA hJX σ (xs (i + 1))) wl_214 wl_215 wl_216 wl_1 wl_217 ⟨rfl, by decide +kernel, by decide +kernel, by decide +kernel⟩ ⟨Nat.le_of_ble_eq_true rfl, Nat.le_of_ble_eq_true rfl⟩ ⟨rfl, rfl⟩ (k := 0) (by omega) rfl rfl rfl rfl rfl (Nat.le_of_ble_eq_true rfl) dL_law_370 hcl (fun H locs hP hP2 hS => ?_)
  refine lv_aload_n hx hb dL_law_373 rfl (lv_at hl 2 rfl) ?_
  refine lv_aload_n hx hb dL_law_374 rfl (lv_at hl 0 rfl) ?_
  refine lv_iload_n hx hb dL_law_375 rfl (lv_at hl 3 rfl) ?_
  refine lv_iconst (v := 1) hx hb dL_law_376 (by decide) ?_
  refine lv_iadd hx hb dL_law_377 ?_
  refine kl_rd (k := 1) hx hb hX hbl hS hL (by omega) (nI_add i 1) dL_law_378 ?_
  refine kl_call (n := 1) (As := [.int (xs (i + 1))]) (rest := [.int ((x_stop σ (xs (i + 1))).1)]) (v := .int ((x_stop σ (xs (i + 1))).1)) (σ1 := U) hx hb hml hown hts hK hZ (fun _ h => h) hJM hAM hP2 hP (hapM _) hS hl.1 (cM_stop l D cA hJM μ (xs (i + 1)) (x_stop σ (xs (i + 1))).1 U hst) wl_488 wl_489 wl_490 wl_5 wl_491 ⟨rfl, by decide +kernel, by decide +kernel, by decide +kernel⟩ ⟨Nat.le_of_ble_eq_true rfl, Nat.le_of_ble_eq_true rfl⟩ ⟨rfl, rfl⟩ (k := 0) (by omega) rfl rfl rfl rfl rfl (Nat.le_of_ble_eq_true rfl) dL_law_379 hcl (fun H locs hP2 hP hS => ?_)
  refine lv_icmp_eq (tgt := 726) hx hb dL_law_382 (by decide) (fun _ => ?_) (fun q9 => absurd eV q9)
  exact cont n c0 _ _ H locs (by omega) hR1 hP hP2 hS ls hl
theorem law_startAll (C0 : kl_C p s m args meth c D cA b L xs ad bd) {n c0 : Nat} {μ : MS} {σ : XS} (hcb : c0 + 1 < 2 ^ 31) (hR : RZ n c0 μ σ) {i : Nat} (hi : i + 6 ≤ L) (hcl : cells ≤ 600000 ∧ slots ≤ 7302250) (hP : va_P D classes (kw_W 36 ad (wX cA ad σ)) H) (hP2 : va_P D classes (kw_W 24 bd (wM cA bd μ)) H) (hS : va_S (fun q => s.heap.size ≤ q) s.heap H locs) {ls : Array Slot} (hl : lv_has ls 8 [(0, .ref b), (1, .ref (ad 0)), (2, .ref (bd 0)), (3, .int (nI i))])
    (cont : kl_N p l e s m args below meth c cells slots Q D cA b ad bd i c0) : W p l e room_1 s m args below meth c H locs cells slots Q (F0 m 387 ls []) := by
  obtain ⟨hx, hb, hml, hown, hts, hK, hZ, hJX, hJM, hAX, hAM, hap, hX, hbl, hL⟩ := C0
  have hapX : ∀ (E : Nat → va_E) (k : Nat) (q : Nat × va_E), (kw_W 24 bd E)[k]? = some q → ∀ i, i < 36 → ¬ q.1 = ad i := fun E k q hq i hi z => by
    obtain ⟨h1, rfl⟩ := kw_of hq
    exact hap i k hi h1 z.symm
  have hapM : ∀ (E : Nat → va_E) (k : Nat) (q : Nat × va_E), (kw_W 36 ad E)[k]? = some q → ∀ i, i < 24 → ¬ q.1 = bd i := fun E k q hq i hi z => by
    obtain ⟨h1, rfl⟩ := kw_of hq
    exact hap k i h1 hi z
  obtain ⟨c1, ff, SS, g0, g1, hR1, eV, hc1⟩ := hR.startAll
  refine lv_aload_n hx hb dL_law_387 rfl (lv_at hl 1 rfl) ?_
  refine kl_call (n := 0) (As := []) (rest := []) (v := .int (cntX (x_allL σ 8) 8)) (σ1 := x_allL σ 8) hx hb hml hown hts hK hZ (fun _ h => h) hJX hAX hP hP2 (hapX _) hS hl.1 (cX_startAll l D cA hJX σ) wl_230 wl_231 wl_232 wl_1 wl_233 ⟨rfl, by decide +kernel, by decide +kernel, by decide +kernel⟩ ⟨Nat.le_of_ble_eq_true rfl, Nat.le_of_ble_eq_true rfl⟩ ⟨rfl, rfl⟩ (k := 0) (by omega) rfl rfl rfl rfl rfl (Nat.le_of_ble_eq_true rfl) dL_law_388 hcl (fun H locs hP hP2 hS => ?_)
  refine lv_aload_n hx hb dL_law_391 rfl (lv_at hl 2 rfl) ?_
  refine kl_call (n := 0) (As := []) (rest := [.int (cntX (x_allL σ 8) 8)]) (v := .int (m_cnt (SS 8) 8)) (σ1 := SS 8) hx hb hml hown hts hK hZ (fun _ h => h) hJM hAM hP2 hP (hapM _) hS hl.1 (cM_startAll l D cA hJM μ ff SS g0 g1) wl_496 wl_497 wl_498 wl_5 wl_499 ⟨rfl, by decide +kernel, by decide +kernel, by decide +kernel⟩ ⟨Nat.le_of_ble_eq_true rfl, Nat.le_of_ble_eq_true rfl⟩ ⟨rfl, rfl⟩ (k := 0) (by omega) rfl rfl rfl rfl rfl (Nat.le_of_ble_eq_true rfl) dL_law_392 hcl (fun H locs hP2 hP hS => ?_)
  refine lv_icmp_eq (tgt := 726) hx hb dL_law_395 (by decide) (fun _ => ?_) (fun q9 => absurd eV q9)
  exact cont n c1 _ _ H locs (by omega) hR1 hP hP2 hS ls hl
theorem law_call (C0 : kl_C p s m args meth c D cA b L xs ad bd) {n c0 : Nat} {μ : MS} {σ : XS} (hcb : c0 + 1 < 2 ^ 31) (hR : RZ n c0 μ σ) {i : Nat} (hi : i + 6 ≤ L) (hcl : cells ≤ 600000 ∧ slots ≤ 7302250) (hP : va_P D classes (kw_W 36 ad (wX cA ad σ)) H) (hP2 : va_P D classes (kw_W 24 bd (wM cA bd μ)) H) (hS : va_S (fun q => s.heap.size ≤ q) s.heap H locs) {ls : Array Slot} (hl : lv_has ls 8 [(0, .ref b), (1, .ref (ad 0)), (2, .ref (bd 0)), (3, .int (nI i))])
    (cont : kl_N p l e s m args below meth c cells slots Q D cA b ad bd i c0) : W p l e room_1 s m args below meth c H locs cells slots Q (F0 m 400 ls []) := by
  obtain ⟨hx, hb, hml, hown, hts, hK, hZ, hJX, hJM, hAX, hAM, hap, hX, hbl, hL⟩ := C0
  have hapX : ∀ (E : Nat → va_E) (k : Nat) (q : Nat × va_E), (kw_W 24 bd E)[k]? = some q → ∀ i, i < 36 → ¬ q.1 = ad i := fun E k q hq i hi z => by
    obtain ⟨h1, rfl⟩ := kw_of hq
    exact hap i k hi h1 z.symm
  have hapM : ∀ (E : Nat → va_E) (k : Nat) (q : Nat × va_E), (kw_W 36 ad E)[k]? = some q → ∀ i, i < 24 → ¬ q.1 = bd i := fun E k q hq i hi z => by
    obtain ⟨h1, rfl⟩ := kw_of hq
    exact hap k i h1 hi z
  obtain ⟨U, hst, hR1⟩ := hR.call (xs (i + 1)) (xs (i + 2)); have eV : (x_call σ (xs (i + 1)) (xs (i + 2))).1 = (x_call σ (xs (i + 1)) (xs (i + 2))).1 := rfl
  refine lv_aload_n hx hb dL_law_400 rfl (lv_at hl 1 rfl) ?_
  refine lv_aload_n hx hb dL_law_401 rfl (lv_at hl 0 rfl) ?_
  refine lv_iload_n hx hb dL_law_402 rfl (lv_at hl 3 rfl) ?_
  refine lv_iconst (v := 1) hx hb dL_law_403 (by decide) ?_
  refine lv_iadd hx hb dL_law_404 ?_
  refine kl_rd (k := 1) hx hb hX hbl hS hL (by omega) (nI_add i 1) dL_law_405 ?_
  refine lv_aload_n hx hb dL_law_406 rfl (lv_at hl 0 rfl) ?_
  refine lv_iload_n hx hb dL_law_407 rfl (lv_at hl 3 rfl) ?_
  refine lv_iconst (v := 2) hx hb dL_law_408 (by decide) ?_
  refine lv_iadd hx hb dL_law_409 ?_
  refine kl_rd (k := 2) hx hb hX hbl hS hL (by omega) (nI_add i 2) dL_law_410 ?_
  refine kl_call (n := 2) (As := [.int (xs (i + 1)), .int (xs (i + 2))]) (rest := []) (v := .int ((x_call σ (xs (i + 1)) (xs (i + 2))).1)) (σ1 := (x_call σ (xs (i + 1)) (xs (i + 2))).2) hx hb hml hown hts hK hZ (fun _ h => h) hJX hAX hP hP2 (hapX _) hS hl.1 (cX_call l D cA hJX σ (xs (i + 1)) (xs (i + 2)) hR.ok) wl_238 wl_239 wl_240 wl_1 wl_241 ⟨rfl, by decide +kernel, by decide +kernel, by decide +kernel⟩ ⟨Nat.le_of_ble_eq_true rfl, Nat.le_of_ble_eq_true rfl⟩ ⟨rfl, rfl⟩ (k := 0) (by omega) rfl rfl rfl rfl rfl (Nat.le_of_ble_eq_true rfl) dL_law_411 hcl (fun H locs hP hP2 hS => ?_)
  refine lv_aload_n hx hb dL_law_414 rfl (lv_at hl 2 rfl) ?_
  refine lv_aload_n hx hb dL_law_415 rfl (lv_at hl 0 rfl) ?_
  refine lv_iload_n hx hb dL_law_416 rfl (lv_at hl 3 rfl) ?_
  refine lv_iconst (v := 1) hx hb dL_law_417 (by decide) ?_
  refine lv_iadd hx hb dL_law_418 ?_
  refine kl_rd (k := 1) hx hb hX hbl hS hL (by omega) (nI_add i 1) dL_law_419 ?_
  refine lv_aload_n hx hb dL_law_420 rfl (lv_at hl 0 rfl) ?_
  refine lv_iload_n hx hb dL_law_421 rfl (lv_at hl 3 rfl) ?_
  refine lv_iconst (v := 2) hx hb dL_law_422 (by decide) ?_
  refine lv_iadd hx hb dL_law_423 ?_
  refine kl_rd (k := 2) hx hb hX hbl hS hL (by omega) (nI_add i 2) dL_law_424 ?_
  refine kl_call (n := 2) (As := [.int (xs (i + 1)), .int (xs (i + 2))]) (rest := [.int ((x_call σ (xs (i + 1)) (xs (i + 2))).1)]) (v := .int ((x_call σ (xs (i + 1)) (xs (i + 2))).1)) (σ1 := U) hx hb hml hown hts hK hZ (fun _ h => h) hJM hAM hP2 hP (hapM _) hS hl.1 (cM_call l D cA hJM μ (xs (i + 1)) (xs (i + 2)) n hR.1.hn hR.1.n1 hR.1.pm (x_call σ (xs (i + 1)) (xs (i + 2))).1 U hst) wl_504 wl_505 wl_506 wl_5 wl_507 ⟨rfl, by decide +kernel, by decide +kernel, by decide +kernel⟩ ⟨Nat.le_of_ble_eq_true rfl, Nat.le_of_ble_eq_true rfl⟩ ⟨rfl, rfl⟩ (k := 0) (by omega) rfl rfl rfl rfl rfl (Nat.le_of_ble_eq_true rfl) dL_law_425 hcl (fun H locs hP2 hP hS => ?_)
  refine lv_icmp_eq (tgt := 726) hx hb dL_law_428 (by decide) (fun _ => ?_) (fun q9 => absurd eV q9)
  exact cont n c0 _ _ H locs (by omega) hR1 hP hP2 hS ls hl
theorem law_forgive (C0 : kl_C p s m args meth c D cA b L xs ad bd) {n c0 : Nat} {μ : MS} {σ : XS} (hcb : c0 + 1 < 2 ^ 31) (hR : RZ n c0 μ σ) {i : Nat} (hi : i + 6 ≤ L) (hcl : cells ≤ 600000 ∧ slots ≤ 7302250) (hP : va_P D classes (kw_W 36 ad (wX cA ad σ)) H) (hP2 : va_P D classes (kw_W 24 bd (wM cA bd μ)) H) (hS : va_S (fun q => s.heap.size ≤ q) s.heap H locs) {ls : Array Slot} (hl : lv_has ls 8 [(0, .ref b), (1, .ref (ad 0)), (2, .ref (bd 0)), (3, .int (nI i))])
    (cont : kl_N p l e s m args below meth c cells slots Q D cA b ad bd i c0) : W p l e room_1 s m args below meth c H locs cells slots Q (F0 m 433 ls []) := by
  obtain ⟨hx, hb, hml, hown, hts, hK, hZ, hJX, hJM, hAX, hAM, hap, hX, hbl, hL⟩ := C0
  have hapX : ∀ (E : Nat → va_E) (k : Nat) (q : Nat × va_E), (kw_W 24 bd E)[k]? = some q → ∀ i, i < 36 → ¬ q.1 = ad i := fun E k q hq i hi z => by
    obtain ⟨h1, rfl⟩ := kw_of hq
    exact hap i k hi h1 z.symm
  have hapM : ∀ (E : Nat → va_E) (k : Nat) (q : Nat × va_E), (kw_W 36 ad E)[k]? = some q → ∀ i, i < 24 → ¬ q.1 = bd i := fun E k q hq i hi z => by
    obtain ⟨h1, rfl⟩ := kw_of hq
    exact hap k i h1 hi z
  obtain ⟨eV, hR1⟩ := hR.forgive (xs (i + 1))
  refine lv_aload_n hx hb dL_law_433 rfl (lv_at hl 1 rfl) ?_
  refine lv_aload_n hx hb dL_law_434 rfl (lv_at hl 0 rfl) ?_
  refine lv_iload_n hx hb dL_law_435 rfl (lv_at hl 3 rfl) ?_
  refine lv_iconst (v := 1) hx hb dL_law_436 (by decide) ?_
  refine lv_iadd hx hb dL_law_437 ?_
  refine kl_rd (k := 1) hx hb hX hbl hS hL (by omega) (nI_add i 1) dL_law_438 ?_
  refine kl_call (n := 1) (As := [.int (xs (i + 1))]) (rest := []) (v := .int ((x_forgive σ (xs (i + 1))).1)) (σ1 := (x_forgive σ (xs (i + 1))).2) hx hb hml hown hts hK hZ (fun _ h => h) hJX hAX hP hP2 (hapX _) hS hl.1 (cX_forgive l D cA hJX σ (xs (i + 1))) wl_288 wl_289 wl_290 wl_1 wl_291 ⟨rfl, by decide +kernel, by decide +kernel, by decide +kernel⟩ ⟨Nat.le_of_ble_eq_true rfl, Nat.le_of_ble_eq_true rfl⟩ ⟨rfl, rfl⟩ (k := 0) (by omega) rfl rfl rfl rfl rfl (Nat.le_of_ble_eq_true rfl) dL_law_439 hcl (fun H locs hP hP2 hS => ?_)
  refine lv_aload_n hx hb dL_law_442 rfl (lv_at hl 2 rfl) ?_
  refine lv_aload_n hx hb dL_law_443 rfl (lv_at hl 0 rfl) ?_
  refine lv_iload_n hx hb dL_law_444 rfl (lv_at hl 3 rfl) ?_
  refine lv_iconst (v := 1) hx hb dL_law_445 (by decide) ?_
  refine lv_iadd hx hb dL_law_446 ?_
  refine kl_rd (k := 1) hx hb hX hbl hS hL (by omega) (nI_add i 1) dL_law_447 ?_
  refine kl_call (n := 1) (As := [.int (xs (i + 1))]) (rest := [.int ((x_forgive σ (xs (i + 1))).1)]) (v := .int ((m_forgive μ (xs (i + 1))).1)) (σ1 := (m_forgive μ (xs (i + 1))).2) hx hb hml hown hts hK hZ (fun _ h => h) hJM hAM hP2 hP (hapM _) hS hl.1 (cM_forgive l D cA hJM μ (xs (i + 1)) n hR.1.hn hR.1.n1) wl_543 wl_544 wl_545 wl_5 wl_546 ⟨rfl, by decide +kernel, by decide +kernel, by decide +kernel⟩ ⟨Nat.le_of_ble_eq_true rfl, Nat.le_of_ble_eq_true rfl⟩ ⟨rfl, rfl⟩ (k := 0) (by omega) rfl rfl rfl rfl rfl (Nat.le_of_ble_eq_true rfl) dL_law_448 hcl (fun H locs hP2 hP hS => ?_)
  refine lv_icmp_eq (tgt := 726) hx hb dL_law_451 (by decide) (fun _ => ?_) (fun q9 => absurd eV q9)
  exact cont n c0 _ _ H locs (by omega) hR1 hP hP2 hS ls hl
theorem law_state (C0 : kl_C p s m args meth c D cA b L xs ad bd) {n c0 : Nat} {μ : MS} {σ : XS} (hcb : c0 + 1 < 2 ^ 31) (hR : RZ n c0 μ σ) {i : Nat} (hi : i + 6 ≤ L) (hcl : cells ≤ 600000 ∧ slots ≤ 7302250) (hP : va_P D classes (kw_W 36 ad (wX cA ad σ)) H) (hP2 : va_P D classes (kw_W 24 bd (wM cA bd μ)) H) (hS : va_S (fun q => s.heap.size ≤ q) s.heap H locs) {ls : Array Slot} (hl : lv_has ls 8 [(0, .ref b), (1, .ref (ad 0)), (2, .ref (bd 0)), (3, .int (nI i))])
    (cont : kl_N p l e s m args below meth c cells slots Q D cA b ad bd i c0) : W p l e room_1 s m args below meth c H locs cells slots Q (F0 m 456 ls []) := by
  obtain ⟨hx, hb, hml, hown, hts, hK, hZ, hJX, hJM, hAX, hAM, hap, hX, hbl, hL⟩ := C0
  have hapX : ∀ (E : Nat → va_E) (k : Nat) (q : Nat × va_E), (kw_W 24 bd E)[k]? = some q → ∀ i, i < 36 → ¬ q.1 = ad i := fun E k q hq i hi z => by
    obtain ⟨h1, rfl⟩ := kw_of hq
    exact hap i k hi h1 z.symm
  have hapM : ∀ (E : Nat → va_E) (k : Nat) (q : Nat × va_E), (kw_W 36 ad E)[k]? = some q → ∀ i, i < 24 → ¬ q.1 = bd i := fun E k q hq i hi z => by
    obtain ⟨h1, rfl⟩ := kw_of hq
    exact hap k i h1 hi z
  have eV := hR.1.state (xs (i + 1))
  have hR1 := hR
  refine lv_aload_n hx hb dL_law_456 rfl (lv_at hl 1 rfl) ?_
  refine lv_aload_n hx hb dL_law_457 rfl (lv_at hl 0 rfl) ?_
  refine lv_iload_n hx hb dL_law_458 rfl (lv_at hl 3 rfl) ?_
  refine lv_iconst (v := 1) hx hb dL_law_459 (by decide) ?_
  refine lv_iadd hx hb dL_law_460 ?_
  refine kl_rd (k := 1) hx hb hX hbl hS hL (by omega) (nI_add i 1) dL_law_461 ?_
  refine kl_call (n := 1) (As := [.int (xs (i + 1))]) (rest := []) (v := .int (x_state σ (xs (i + 1)))) (σ1 := σ) hx hb hml hown hts hK hZ (fun _ h => h) hJX hAX hP hP2 (hapX _) hS hl.1 (cX_state l D cA hJX σ (xs (i + 1))) wl_296 wl_297 wl_298 wl_1 wl_299 ⟨rfl, by decide +kernel, by decide +kernel, by decide +kernel⟩ ⟨Nat.le_of_ble_eq_true rfl, Nat.le_of_ble_eq_true rfl⟩ ⟨rfl, rfl⟩ (k := 0) (by omega) rfl rfl rfl rfl rfl (Nat.le_of_ble_eq_true rfl) dL_law_462 hcl (fun H locs hP hP2 hS => ?_)
  refine lv_aload_n hx hb dL_law_465 rfl (lv_at hl 2 rfl) ?_
  refine lv_aload_n hx hb dL_law_466 rfl (lv_at hl 0 rfl) ?_
  refine lv_iload_n hx hb dL_law_467 rfl (lv_at hl 3 rfl) ?_
  refine lv_iconst (v := 1) hx hb dL_law_468 (by decide) ?_
  refine lv_iadd hx hb dL_law_469 ?_
  refine kl_rd (k := 1) hx hb hX hbl hS hL (by omega) (nI_add i 1) dL_law_470 ?_
  refine kl_call (n := 1) (As := [.int (xs (i + 1))]) (rest := [.int (x_state σ (xs (i + 1)))]) (v := .int (m_state μ (xs (i + 1)))) (σ1 := μ) hx hb hml hown hts hK hZ (fun _ h => h) hJM hAM hP2 hP (hapM _) hS hl.1 (cM_state l D cA hJM μ (xs (i + 1))) wl_551 wl_552 wl_553 wl_5 wl_554 ⟨rfl, by decide +kernel, by decide +kernel, by decide +kernel⟩ ⟨Nat.le_of_ble_eq_true rfl, Nat.le_of_ble_eq_true rfl⟩ ⟨rfl, rfl⟩ (k := 0) (by omega) rfl rfl rfl rfl rfl (Nat.le_of_ble_eq_true rfl) dL_law_471 hcl (fun H locs hP2 hP hS => ?_)
  refine lv_icmp_eq (tgt := 726) hx hb dL_law_474 (by decide) (fun _ => ?_) (fun q9 => absurd eV q9)
  exact cont n c0 _ _ H locs (by omega) hR1 hP hP2 hS ls hl
theorem law_extension (C0 : kl_C p s m args meth c D cA b L xs ad bd) {n c0 : Nat} {μ : MS} {σ : XS} (hcb : c0 + 1 < 2 ^ 31) (hR : RZ n c0 μ σ) {i : Nat} (hi : i + 6 ≤ L) (hcl : cells ≤ 600000 ∧ slots ≤ 7302250) (hP : va_P D classes (kw_W 36 ad (wX cA ad σ)) H) (hP2 : va_P D classes (kw_W 24 bd (wM cA bd μ)) H) (hS : va_S (fun q => s.heap.size ≤ q) s.heap H locs) {ls : Array Slot} (hl : lv_has ls 8 [(0, .ref b), (1, .ref (ad 0)), (2, .ref (bd 0)), (3, .int (nI i))])
    (cont : kl_N p l e s m args below meth c cells slots Q D cA b ad bd i c0) : W p l e room_1 s m args below meth c H locs cells slots Q (F0 m 479 ls []) := by
  obtain ⟨hx, hb, hml, hown, hts, hK, hZ, hJX, hJM, hAX, hAM, hap, hX, hbl, hL⟩ := C0
  have hapX : ∀ (E : Nat → va_E) (k : Nat) (q : Nat × va_E), (kw_W 24 bd E)[k]? = some q → ∀ i, i < 36 → ¬ q.1 = ad i := fun E k q hq i hi z => by
    obtain ⟨h1, rfl⟩ := kw_of hq
    exact hap i k hi h1 z.symm
  have hapM : ∀ (E : Nat → va_E) (k : Nat) (q : Nat × va_E), (kw_W 36 ad E)[k]? = some q → ∀ i, i < 24 → ¬ q.1 = bd i := fun E k q hq i hi z => by
    obtain ⟨h1, rfl⟩ := kw_of hq
    exact hap k i h1 hi z
  have eV := hR.1.extension (xs (i + 1)) (xs (i + 2))
  have hR1 := hR
  refine lv_aload_n hx hb dL_law_479 rfl (lv_at hl 1 rfl) ?_
  refine lv_aload_n hx hb dL_law_480 rfl (lv_at hl 0 rfl) ?_
  refine lv_iload_n hx hb dL_law_481 rfl (lv_at hl 3 rfl) ?_
  refine lv_iconst (v := 1) hx hb dL_law_482 (by decide) ?_
  refine lv_iadd hx hb dL_law_483 ?_
  refine kl_rd (k := 1) hx hb hX hbl hS hL (by omega) (nI_add i 1) dL_law_484 ?_
  refine lv_aload_n hx hb dL_law_485 rfl (lv_at hl 0 rfl) ?_
  refine lv_iload_n hx hb dL_law_486 rfl (lv_at hl 3 rfl) ?_
  refine lv_iconst (v := 2) hx hb dL_law_487 (by decide) ?_
  refine lv_iadd hx hb dL_law_488 ?_
  refine kl_rd (k := 2) hx hb hX hbl hS hL (by omega) (nI_add i 2) dL_law_489 ?_
  refine kl_call (n := 2) (As := [.int (xs (i + 1)), .int (xs (i + 2))]) (rest := []) (v := .int (x_extension σ (xs (i + 1)) (xs (i + 2)))) (σ1 := σ) hx hb hml hown hts hK hZ (fun _ h => h) hJX hAX hP hP2 (hapX _) hS hl.1 (cX_extension l D cA hJX σ (xs (i + 1)) (xs (i + 2)) hR.1.px) wl_300 wl_301 wl_302 wl_1 wl_303 ⟨rfl, by decide +kernel, by decide +kernel, by decide +kernel⟩ ⟨Nat.le_of_ble_eq_true rfl, Nat.le_of_ble_eq_true rfl⟩ ⟨rfl, rfl⟩ (k := 0) (by omega) rfl rfl rfl rfl rfl (Nat.le_of_ble_eq_true rfl) dL_law_490 hcl (fun H locs hP hP2 hS => ?_)
  refine lv_aload_n hx hb dL_law_493 rfl (lv_at hl 2 rfl) ?_
  refine lv_aload_n hx hb dL_law_494 rfl (lv_at hl 0 rfl) ?_
  refine lv_iload_n hx hb dL_law_495 rfl (lv_at hl 3 rfl) ?_
  refine lv_iconst (v := 1) hx hb dL_law_496 (by decide) ?_
  refine lv_iadd hx hb dL_law_497 ?_
  refine kl_rd (k := 1) hx hb hX hbl hS hL (by omega) (nI_add i 1) dL_law_498 ?_
  refine lv_aload_n hx hb dL_law_499 rfl (lv_at hl 0 rfl) ?_
  refine lv_iload_n hx hb dL_law_500 rfl (lv_at hl 3 rfl) ?_
  refine lv_iconst (v := 2) hx hb dL_law_501 (by decide) ?_
  refine lv_iadd hx hb dL_law_502 ?_
  refine kl_rd (k := 2) hx hb hX hbl hS hL (by omega) (nI_add i 2) dL_law_503 ?_
  refine kl_call (n := 2) (As := [.int (xs (i + 1)), .int (xs (i + 2))]) (rest := [.int (x_extension σ (xs (i + 1)) (xs (i + 2)))]) (v := .int (m_extension μ (xs (i + 1)) (xs (i + 2)))) (σ1 := μ) hx hb hml hown hts hK hZ (fun _ h => h) hJM hAM hP2 hP (hapM _) hS hl.1 (cM_extension l D cA hJM μ (xs (i + 1)) (xs (i + 2)) n hR.1.hn hR.1.n1 hR.1.pm) wl_555 wl_556 wl_557 wl_5 wl_558 ⟨rfl, by decide +kernel, by decide +kernel, by decide +kernel⟩ ⟨Nat.le_of_ble_eq_true rfl, Nat.le_of_ble_eq_true rfl⟩ ⟨rfl, rfl⟩ (k := 0) (by omega) rfl rfl rfl rfl rfl (Nat.le_of_ble_eq_true rfl) dL_law_504 hcl (fun H locs hP2 hP hS => ?_)
  refine lv_icmp_eq (tgt := 726) hx hb dL_law_507 (by decide) (fun _ => ?_) (fun q9 => absurd eV q9)
  exact cont n c0 _ _ H locs (by omega) hR1 hP hP2 hS ls hl
theorem law_at (C0 : kl_C p s m args meth c D cA b L xs ad bd) {n c0 : Nat} {μ : MS} {σ : XS} (hcb : c0 + 1 < 2 ^ 31) (hR : RZ n c0 μ σ) {i : Nat} (hi : i + 6 ≤ L) (hcl : cells ≤ 600000 ∧ slots ≤ 7302250) (hP : va_P D classes (kw_W 36 ad (wX cA ad σ)) H) (hP2 : va_P D classes (kw_W 24 bd (wM cA bd μ)) H) (hS : va_S (fun q => s.heap.size ≤ q) s.heap H locs) {ls : Array Slot} (hl : lv_has ls 8 [(0, .ref b), (1, .ref (ad 0)), (2, .ref (bd 0)), (3, .int (nI i))])
    (cont : kl_N p l e s m args below meth c cells slots Q D cA b ad bd i c0) : W p l e room_1 s m args below meth c H locs cells slots Q (F0 m 512 ls []) := by
  obtain ⟨hx, hb, hml, hown, hts, hK, hZ, hJX, hJM, hAX, hAM, hap, hX, hbl, hL⟩ := C0
  have hapX : ∀ (E : Nat → va_E) (k : Nat) (q : Nat × va_E), (kw_W 24 bd E)[k]? = some q → ∀ i, i < 36 → ¬ q.1 = ad i := fun E k q hq i hi z => by
    obtain ⟨h1, rfl⟩ := kw_of hq
    exact hap i k hi h1 z.symm
  have hapM : ∀ (E : Nat → va_E) (k : Nat) (q : Nat × va_E), (kw_W 36 ad E)[k]? = some q → ∀ i, i < 24 → ¬ q.1 = bd i := fun E k q hq i hi z => by
    obtain ⟨h1, rfl⟩ := kw_of hq
    exact hap k i h1 hi z
  have eV := hR.1.at (xs (i + 1)) (xs (i + 2))
  have hR1 := hR
  refine lv_aload_n hx hb dL_law_512 rfl (lv_at hl 1 rfl) ?_
  refine lv_aload_n hx hb dL_law_513 rfl (lv_at hl 0 rfl) ?_
  refine lv_iload_n hx hb dL_law_514 rfl (lv_at hl 3 rfl) ?_
  refine lv_iconst (v := 1) hx hb dL_law_515 (by decide) ?_
  refine lv_iadd hx hb dL_law_516 ?_
  refine kl_rd (k := 1) hx hb hX hbl hS hL (by omega) (nI_add i 1) dL_law_517 ?_
  refine lv_aload_n hx hb dL_law_518 rfl (lv_at hl 0 rfl) ?_
  refine lv_iload_n hx hb dL_law_519 rfl (lv_at hl 3 rfl) ?_
  refine lv_iconst (v := 2) hx hb dL_law_520 (by decide) ?_
  refine lv_iadd hx hb dL_law_521 ?_
  refine kl_rd (k := 2) hx hb hX hbl hS hL (by omega) (nI_add i 2) dL_law_522 ?_
  refine kl_call (n := 2) (As := [.int (xs (i + 1)), .int (xs (i + 2))]) (rest := []) (v := .int (x_at σ (xs (i + 1)) (xs (i + 2)))) (σ1 := σ) hx hb hml hown hts hK hZ (fun _ h => h) hJX hAX hP hP2 (hapX _) hS hl.1 (cX_at l D cA hJX σ (xs (i + 1)) (xs (i + 2)) hR.1.od.lt hR.1.px) wl_308 wl_309 wl_310 wl_1 wl_311 ⟨rfl, by decide +kernel, by decide +kernel, by decide +kernel⟩ ⟨Nat.le_of_ble_eq_true rfl, Nat.le_of_ble_eq_true rfl⟩ ⟨rfl, rfl⟩ (k := 0) (by omega) rfl rfl rfl rfl rfl (Nat.le_of_ble_eq_true rfl) dL_law_523 hcl (fun H locs hP hP2 hS => ?_)
  refine lv_aload_n hx hb dL_law_526 rfl (lv_at hl 2 rfl) ?_
  refine lv_aload_n hx hb dL_law_527 rfl (lv_at hl 0 rfl) ?_
  refine lv_iload_n hx hb dL_law_528 rfl (lv_at hl 3 rfl) ?_
  refine lv_iconst (v := 1) hx hb dL_law_529 (by decide) ?_
  refine lv_iadd hx hb dL_law_530 ?_
  refine kl_rd (k := 1) hx hb hX hbl hS hL (by omega) (nI_add i 1) dL_law_531 ?_
  refine lv_aload_n hx hb dL_law_532 rfl (lv_at hl 0 rfl) ?_
  refine lv_iload_n hx hb dL_law_533 rfl (lv_at hl 3 rfl) ?_
  refine lv_iconst (v := 2) hx hb dL_law_534 (by decide) ?_
  refine lv_iadd hx hb dL_law_535 ?_
  refine kl_rd (k := 2) hx hb hX hbl hS hL (by omega) (nI_add i 2) dL_law_536 ?_
  refine kl_call (n := 2) (As := [.int (xs (i + 1)), .int (xs (i + 2))]) (rest := [.int (x_at σ (xs (i + 1)) (xs (i + 2)))]) (v := .int (m_at n μ (xs (i + 1)) (xs (i + 2)))) (σ1 := μ) hx hb hml hown hts hK hZ (fun _ h => h) hJM hAM hP2 hP (hapM _) hS hl.1 (cM_at l D cA hJM μ (xs (i + 1)) (xs (i + 2)) n hR.1.hn hR.1.n1 hR.1.pm) wl_559 wl_560 wl_561 wl_5 wl_562 ⟨rfl, by decide +kernel, by decide +kernel, by decide +kernel⟩ ⟨Nat.le_of_ble_eq_true rfl, Nat.le_of_ble_eq_true rfl⟩ ⟨rfl, rfl⟩ (k := 0) (by omega) rfl rfl rfl rfl rfl (Nat.le_of_ble_eq_true rfl) dL_law_537 hcl (fun H locs hP2 hP hS => ?_)
  refine lv_icmp_eq (tgt := 726) hx hb dL_law_540 (by decide) (fun _ => ?_) (fun q9 => absurd eV q9)
  exact cont n c0 _ _ H locs (by omega) hR1 hP hP2 hS ls hl
theorem law_weight (C0 : kl_C p s m args meth c D cA b L xs ad bd) {n c0 : Nat} {μ : MS} {σ : XS} (hcb : c0 + 1 < 2 ^ 31) (hR : RZ n c0 μ σ) {i : Nat} (hi : i + 6 ≤ L) (hcl : cells ≤ 600000 ∧ slots ≤ 7302250) (hP : va_P D classes (kw_W 36 ad (wX cA ad σ)) H) (hP2 : va_P D classes (kw_W 24 bd (wM cA bd μ)) H) (hS : va_S (fun q => s.heap.size ≤ q) s.heap H locs) {ls : Array Slot} (hl : lv_has ls 8 [(0, .ref b), (1, .ref (ad 0)), (2, .ref (bd 0)), (3, .int (nI i))])
    (cont : kl_N p l e s m args below meth c cells slots Q D cA b ad bd i c0) : W p l e room_1 s m args below meth c H locs cells slots Q (F0 m 545 ls []) := by
  obtain ⟨hx, hb, hml, hown, hts, hK, hZ, hJX, hJM, hAX, hAM, hap, hX, hbl, hL⟩ := C0
  have hapX : ∀ (E : Nat → va_E) (k : Nat) (q : Nat × va_E), (kw_W 24 bd E)[k]? = some q → ∀ i, i < 36 → ¬ q.1 = ad i := fun E k q hq i hi z => by
    obtain ⟨h1, rfl⟩ := kw_of hq
    exact hap i k hi h1 z.symm
  have hapM : ∀ (E : Nat → va_E) (k : Nat) (q : Nat × va_E), (kw_W 36 ad E)[k]? = some q → ∀ i, i < 24 → ¬ q.1 = bd i := fun E k q hq i hi z => by
    obtain ⟨h1, rfl⟩ := kw_of hq
    exact hap k i h1 hi z
  have eV : e8 (x_wS σ (xs (i + 1)) 16) = e8 (m_wS μ (xs (i + 1)) n) := by rw [hR.1.wS (xs (i + 1))]
  have hR1 := hR
  refine lv_aload_n hx hb dL_law_545 rfl (lv_at hl 1 rfl) ?_
  refine lv_aload_n hx hb dL_law_546 rfl (lv_at hl 0 rfl) ?_
  refine lv_iload_n hx hb dL_law_547 rfl (lv_at hl 3 rfl) ?_
  refine lv_iconst (v := 1) hx hb dL_law_548 (by decide) ?_
  refine lv_iadd hx hb dL_law_549 ?_
  refine kl_rd (k := 1) hx hb hX hbl hS hL (by omega) (nI_add i 1) dL_law_550 ?_
  refine kl_call (n := 1) (As := [.int (xs (i + 1))]) (rest := []) (v := .double (e8 (x_wS σ (xs (i + 1)) 16))) (σ1 := σ) hx hb hml hown hts hK hZ (fun _ h => h) hJX hAX hP hP2 (hapX _) hS hl.1 (cX_weight l D cA hJX σ (xs (i + 1)) hR.1.od.lt hR.1.px) wl_312 wl_313 wl_314 wl_1 wl_315 ⟨rfl, by decide +kernel, by decide +kernel, by decide +kernel⟩ ⟨Nat.le_of_ble_eq_true rfl, Nat.le_of_ble_eq_true rfl⟩ ⟨rfl, rfl⟩ (k := 0) (by omega) rfl rfl rfl rfl rfl (Nat.le_of_ble_eq_true rfl) dL_law_551 hcl (fun H locs hP hP2 hS => ?_)
  refine lv_dstore (lv' := (4, .double (e8 (x_wS σ (xs (i + 1)) 16))) :: [(0, .ref b), (1, .ref (ad 0)), (2, .ref (bd 0)), (3, .int (nI i))]) hx hb dL_law_554 hl (by decide) rfl (fun ls hl => ?_)
  refine lv_aload_n hx hb dL_law_556 rfl (lv_at hl 3 rfl) ?_
  refine lv_aload_n hx hb dL_law_557 rfl (lv_at hl 1 rfl) ?_
  refine lv_iload_n hx hb dL_law_558 rfl (lv_at hl 4 rfl) ?_
  refine lv_iconst (v := 1) hx hb dL_law_559 (by decide) ?_
  refine lv_iadd hx hb dL_law_560 ?_
  refine kl_rd (k := 1) hx hb hX hbl hS hL (by omega) (nI_add i 1) dL_law_561 ?_
  refine kl_call (n := 1) (As := [.int (xs (i + 1))]) (rest := []) (v := .double (e8 (m_wS μ (xs (i + 1)) n))) (σ1 := μ) hx hb hml hown hts hK hZ (fun _ h => h) hJM hAM hP2 hP (hapM _) hS hl.1 (cM_weight l D cA hJM μ (xs (i + 1)) n hR.1.hn hR.1.n1 hR.1.pm) wl_563 wl_564 wl_565 wl_5 wl_566 ⟨rfl, by decide +kernel, by decide +kernel, by decide +kernel⟩ ⟨Nat.le_of_ble_eq_true rfl, Nat.le_of_ble_eq_true rfl⟩ ⟨rfl, rfl⟩ (k := 0) (by omega) rfl rfl rfl rfl rfl (Nat.le_of_ble_eq_true rfl) dL_law_562 hcl (fun H locs hP2 hP hS => ?_)
  refine lv_dstore (lv' := (6, .double (e8 (m_wS μ (xs (i + 1)) n))) :: (4, .double (e8 (x_wS σ (xs (i + 1)) 16))) :: [(0, .ref b), (1, .ref (ad 0)), (2, .ref (bd 0)), (3, .int (nI i))]) hx hb dL_law_565 hl (by decide) rfl (fun ls hl => ?_)
  refine lv_dload hx hb dL_law_567 (lv_at hl 1 rfl) ?_
  refine lv_dload hx hb dL_law_569 (lv_at hl 0 rfl) ?_
  refine lv_dcmp hx hb dL_law_571 ?_
  rw [eV]
  refine lv_if_eq (tgt := 593) hx hb dL_law_572 (by decide) (fun _ => ?_) (fun q9 => absurd (kl_cmp_w hR.1 _) q9)
  refine lv_goto (tgt := 726) hx hb dL_law_593 (by decide) ?_
  exact cont n c0 _ _ H locs (by omega) hR1 hP hP2 hS ls (lv_sub hl [2, 3, 4, 5] rfl)
theorem law_ordinal (C0 : kl_C p s m args meth c D cA b L xs ad bd) {n c0 : Nat} {μ : MS} {σ : XS} (hcb : c0 + 1 < 2 ^ 31) (hR : RZ n c0 μ σ) {i : Nat} (hi : i + 6 ≤ L) (hcl : cells ≤ 600000 ∧ slots ≤ 7302250) (hP : va_P D classes (kw_W 36 ad (wX cA ad σ)) H) (hP2 : va_P D classes (kw_W 24 bd (wM cA bd μ)) H) (hS : va_S (fun q => s.heap.size ≤ q) s.heap H locs) {ls : Array Slot} (hl : lv_has ls 8 [(0, .ref b), (1, .ref (ad 0)), (2, .ref (bd 0)), (3, .int (nI i))])
    (cont : kl_N p l e s m args below meth c cells slots Q D cA b ad bd i c0) : W p l e room_1 s m args below meth c H locs cells slots Q (F0 m 596 ls []) := by
  obtain ⟨hx, hb, hml, hown, hts, hK, hZ, hJX, hJM, hAX, hAM, hap, hX, hbl, hL⟩ := C0
  have hapX : ∀ (E : Nat → va_E) (k : Nat) (q : Nat × va_E), (kw_W 24 bd E)[k]? = some q → ∀ i, i < 36 → ¬ q.1 = ad i := fun E k q hq i hi z => by
    obtain ⟨h1, rfl⟩ := kw_of hq
    exact hap i k hi h1 z.symm
  have hapM : ∀ (E : Nat → va_E) (k : Nat) (q : Nat × va_E), (kw_W 36 ad E)[k]? = some q → ∀ i, i < 24 → ¬ q.1 = bd i := fun E k q hq i hi z => by
    obtain ⟨h1, rfl⟩ := kw_of hq
    exact hap k i h1 hi z
  have eV := hR.1.ordinal (xs (i + 1))
  have hR1 := hR
  refine lv_aload_n hx hb dL_law_596 rfl (lv_at hl 1 rfl) ?_
  refine lv_aload_n hx hb dL_law_597 rfl (lv_at hl 0 rfl) ?_
  refine lv_iload_n hx hb dL_law_598 rfl (lv_at hl 3 rfl) ?_
  refine lv_iconst (v := 1) hx hb dL_law_599 (by decide) ?_
  refine lv_iadd hx hb dL_law_600 ?_
  refine kl_rd (k := 1) hx hb hX hbl hS hL (by omega) (nI_add i 1) dL_law_601 ?_
  refine kl_call (n := 1) (As := [.int (xs (i + 1))]) (rest := []) (v := .double (x_ordinal σ (xs (i + 1)))) (σ1 := σ) hx hb hml hown hts hK hZ (fun _ h => h) hJX hAX hP hP2 (hapX _) hS hl.1 (cX_ordinal l D cA hJX σ (xs (i + 1))) wl_321 wl_322 wl_323 wl_1 wl_324 ⟨rfl, by decide +kernel, by decide +kernel, by decide +kernel⟩ ⟨Nat.le_of_ble_eq_true rfl, Nat.le_of_ble_eq_true rfl⟩ ⟨rfl, rfl⟩ (k := 0) (by omega) rfl rfl rfl rfl rfl (Nat.le_of_ble_eq_true rfl) dL_law_602 hcl (fun H locs hP hP2 hS => ?_)
  refine lv_dstore (lv' := (4, .double (x_ordinal σ (xs (i + 1)))) :: [(0, .ref b), (1, .ref (ad 0)), (2, .ref (bd 0)), (3, .int (nI i))]) hx hb dL_law_605 hl (by decide) rfl (fun ls hl => ?_)
  refine lv_aload_n hx hb dL_law_607 rfl (lv_at hl 3 rfl) ?_
  refine lv_aload_n hx hb dL_law_608 rfl (lv_at hl 1 rfl) ?_
  refine lv_iload_n hx hb dL_law_609 rfl (lv_at hl 4 rfl) ?_
  refine lv_iconst (v := 1) hx hb dL_law_610 (by decide) ?_
  refine lv_iadd hx hb dL_law_611 ?_
  refine kl_rd (k := 1) hx hb hX hbl hS hL (by omega) (nI_add i 1) dL_law_612 ?_
  refine kl_call (n := 1) (As := [.int (xs (i + 1))]) (rest := []) (v := .double (m_ordinal μ (xs (i + 1)))) (σ1 := μ) hx hb hml hown hts hK hZ (fun _ h => h) hJM hAM hP2 hP (hapM _) hS hl.1 (cM_ordinal l D cA hJM μ (xs (i + 1)) n hR.1.hn hR.1.n1) wl_567 wl_568 wl_569 wl_5 wl_570 ⟨rfl, by decide +kernel, by decide +kernel, by decide +kernel⟩ ⟨Nat.le_of_ble_eq_true rfl, Nat.le_of_ble_eq_true rfl⟩ ⟨rfl, rfl⟩ (k := 0) (by omega) rfl rfl rfl rfl rfl (Nat.le_of_ble_eq_true rfl) dL_law_613 hcl (fun H locs hP2 hP hS => ?_)
  refine lv_dstore (lv' := (6, .double (m_ordinal μ (xs (i + 1)))) :: (4, .double (x_ordinal σ (xs (i + 1)))) :: [(0, .ref b), (1, .ref (ad 0)), (2, .ref (bd 0)), (3, .int (nI i))]) hx hb dL_law_616 hl (by decide) rfl (fun ls hl => ?_)
  refine lv_dload hx hb dL_law_618 (lv_at hl 1 rfl) ?_
  refine lv_dload hx hb dL_law_620 (lv_at hl 0 rfl) ?_
  refine lv_dcmp hx hb dL_law_622 ?_
  rw [eV]
  refine lv_if_eq (tgt := 644) hx hb dL_law_623 (by decide) (fun _ => ?_) (fun q9 => absurd (kl_cmp_o) q9)
  refine lv_goto (tgt := 726) hx hb dL_law_644 (by decide) ?_
  exact cont n c0 _ _ H locs (by omega) hR1 hP hP2 hS ls (lv_sub hl [2, 3, 4, 5] rfl)
theorem law_fault (C0 : kl_C p s m args meth c D cA b L xs ad bd) {n c0 : Nat} {μ : MS} {σ : XS} (hcb : c0 + 1 < 2 ^ 31) (hR : RZ n c0 μ σ) {i : Nat} (hi : i + 6 ≤ L) (hcl : cells ≤ 600000 ∧ slots ≤ 7302250) (hP : va_P D classes (kw_W 36 ad (wX cA ad σ)) H) (hP2 : va_P D classes (kw_W 24 bd (wM cA bd μ)) H) (hS : va_S (fun q => s.heap.size ≤ q) s.heap H locs) {ls : Array Slot} (hl : lv_has ls 8 [(0, .ref b), (1, .ref (ad 0)), (2, .ref (bd 0)), (3, .int (nI i))])
    (cont : kl_N p l e s m args below meth c cells slots Q D cA b ad bd i c0) : W p l e room_1 s m args below meth c H locs cells slots Q (F0 m 647 ls []) := by
  obtain ⟨hx, hb, hml, hown, hts, hK, hZ, hJX, hJM, hAX, hAM, hap, hX, hbl, hL⟩ := C0
  have hapX : ∀ (E : Nat → va_E) (k : Nat) (q : Nat × va_E), (kw_W 24 bd E)[k]? = some q → ∀ i, i < 36 → ¬ q.1 = ad i := fun E k q hq i hi z => by
    obtain ⟨h1, rfl⟩ := kw_of hq
    exact hap i k hi h1 z.symm
  have hapM : ∀ (E : Nat → va_E) (k : Nat) (q : Nat × va_E), (kw_W 36 ad E)[k]? = some q → ∀ i, i < 24 → ¬ q.1 = bd i := fun E k q hq i hi z => by
    obtain ⟨h1, rfl⟩ := kw_of hq
    exact hap k i h1 hi z
  have eV := hR.1.fault (xs (i + 1)) (xs (i + 2))
  have hR1 := hR
  refine lv_aload_n hx hb dL_law_647 rfl (lv_at hl 1 rfl) ?_
  refine lv_aload_n hx hb dL_law_648 rfl (lv_at hl 0 rfl) ?_
  refine lv_iload_n hx hb dL_law_649 rfl (lv_at hl 3 rfl) ?_
  refine lv_iconst (v := 1) hx hb dL_law_650 (by decide) ?_
  refine lv_iadd hx hb dL_law_651 ?_
  refine kl_rd (k := 1) hx hb hX hbl hS hL (by omega) (nI_add i 1) dL_law_652 ?_
  refine lv_aload_n hx hb dL_law_653 rfl (lv_at hl 0 rfl) ?_
  refine lv_iload_n hx hb dL_law_654 rfl (lv_at hl 3 rfl) ?_
  refine lv_iconst (v := 2) hx hb dL_law_655 (by decide) ?_
  refine lv_iadd hx hb dL_law_656 ?_
  refine kl_rd (k := 2) hx hb hX hbl hS hL (by omega) (nI_add i 2) dL_law_657 ?_
  refine kl_call (n := 2) (As := [.int (xs (i + 1)), .int (xs (i + 2))]) (rest := []) (v := .int (x_fault σ (xs (i + 1)) (xs (i + 2)))) (σ1 := σ) hx hb hml hown hts hK hZ (fun _ h => h) hJX hAX hP hP2 (hapX _) hS hl.1 (cX_fault l D cA hJX σ (xs (i + 1)) (xs (i + 2))) wl_325 wl_326 wl_327 wl_1 wl_328 ⟨rfl, by decide +kernel, by decide +kernel, by decide +kernel⟩ ⟨Nat.le_of_ble_eq_true rfl, Nat.le_of_ble_eq_true rfl⟩ ⟨rfl, rfl⟩ (k := 0) (by omega) rfl rfl rfl rfl rfl (Nat.le_of_ble_eq_true rfl) dL_law_658 hcl (fun H locs hP hP2 hS => ?_)
  refine lv_aload_n hx hb dL_law_661 rfl (lv_at hl 2 rfl) ?_
  refine lv_aload_n hx hb dL_law_662 rfl (lv_at hl 0 rfl) ?_
  refine lv_iload_n hx hb dL_law_663 rfl (lv_at hl 3 rfl) ?_
  refine lv_iconst (v := 1) hx hb dL_law_664 (by decide) ?_
  refine lv_iadd hx hb dL_law_665 ?_
  refine kl_rd (k := 1) hx hb hX hbl hS hL (by omega) (nI_add i 1) dL_law_666 ?_
  refine lv_aload_n hx hb dL_law_667 rfl (lv_at hl 0 rfl) ?_
  refine lv_iload_n hx hb dL_law_668 rfl (lv_at hl 3 rfl) ?_
  refine lv_iconst (v := 2) hx hb dL_law_669 (by decide) ?_
  refine lv_iadd hx hb dL_law_670 ?_
  refine kl_rd (k := 2) hx hb hX hbl hS hL (by omega) (nI_add i 2) dL_law_671 ?_
  refine kl_call (n := 2) (As := [.int (xs (i + 1)), .int (xs (i + 2))]) (rest := [.int (x_fault σ (xs (i + 1)) (xs (i + 2)))]) (v := .int (m_fault μ (xs (i + 1)) (xs (i + 2)))) (σ1 := μ) hx hb hml hown hts hK hZ (fun _ h => h) hJM hAM hP2 hP (hapM _) hS hl.1 (cM_fault l D cA hJM μ (xs (i + 1)) (xs (i + 2))) wl_571 wl_572 wl_573 wl_5 wl_574 ⟨rfl, by decide +kernel, by decide +kernel, by decide +kernel⟩ ⟨Nat.le_of_ble_eq_true rfl, Nat.le_of_ble_eq_true rfl⟩ ⟨rfl, rfl⟩ (k := 0) (by omega) rfl rfl rfl rfl rfl (Nat.le_of_ble_eq_true rfl) dL_law_672 hcl (fun H locs hP2 hP hS => ?_)
  refine lv_icmp_eq (tgt := 726) hx hb dL_law_675 (by decide) (fun _ => ?_) (fun q9 => absurd eV q9)
  exact cont n c0 _ _ H locs (by omega) hR1 hP hP2 hS ls hl
theorem law_event (C0 : kl_C p s m args meth c D cA b L xs ad bd) {n c0 : Nat} {μ : MS} {σ : XS} (hcb : c0 + 1 < 2 ^ 31) (hR : RZ n c0 μ σ) {i : Nat} (hi : i + 6 ≤ L) (hcl : cells ≤ 600000 ∧ slots ≤ 7302250) (hP : va_P D classes (kw_W 36 ad (wX cA ad σ)) H) (hP2 : va_P D classes (kw_W 24 bd (wM cA bd μ)) H) (hS : va_S (fun q => s.heap.size ≤ q) s.heap H locs) {ls : Array Slot} (hl : lv_has ls 8 [(0, .ref b), (1, .ref (ad 0)), (2, .ref (bd 0)), (3, .int (nI i))])
    (cont : kl_N p l e s m args below meth c cells slots Q D cA b ad bd i c0) : W p l e room_1 s m args below meth c H locs cells slots Q (F0 m 680 ls []) := by
  obtain ⟨hx, hb, hml, hown, hts, hK, hZ, hJX, hJM, hAX, hAM, hap, hX, hbl, hL⟩ := C0
  have hapX : ∀ (E : Nat → va_E) (k : Nat) (q : Nat × va_E), (kw_W 24 bd E)[k]? = some q → ∀ i, i < 36 → ¬ q.1 = ad i := fun E k q hq i hi z => by
    obtain ⟨h1, rfl⟩ := kw_of hq
    exact hap i k hi h1 z.symm
  have hapM : ∀ (E : Nat → va_E) (k : Nat) (q : Nat × va_E), (kw_W 36 ad E)[k]? = some q → ∀ i, i < 24 → ¬ q.1 = bd i := fun E k q hq i hi z => by
    obtain ⟨h1, rfl⟩ := kw_of hq
    exact hap k i h1 hi z
  have eV := hR.1.event (xs (i + 1))
  have hR1 := hR
  refine lv_aload_n hx hb dL_law_680 rfl (lv_at hl 1 rfl) ?_
  refine lv_aload_n hx hb dL_law_681 rfl (lv_at hl 0 rfl) ?_
  refine lv_iload_n hx hb dL_law_682 rfl (lv_at hl 3 rfl) ?_
  refine lv_iconst (v := 1) hx hb dL_law_683 (by decide) ?_
  refine lv_iadd hx hb dL_law_684 ?_
  refine kl_rd (k := 1) hx hb hX hbl hS hL (by omega) (nI_add i 1) dL_law_685 ?_
  refine kl_call (n := 1) (As := [.int (xs (i + 1))]) (rest := []) (v := .int (hlast σ 0 (xs (i + 1)))) (σ1 := σ) hx hb hml hown hts hK hZ (fun _ h => h) hJX hAX hP hP2 (hapX _) hS hl.1 (cX_event l D cA hJX σ (xs (i + 1))) wl_333 wl_334 wl_335 wl_1 wl_336 ⟨rfl, by decide +kernel, by decide +kernel, by decide +kernel⟩ ⟨Nat.le_of_ble_eq_true rfl, Nat.le_of_ble_eq_true rfl⟩ ⟨rfl, rfl⟩ (k := 0) (by omega) rfl rfl rfl rfl rfl (Nat.le_of_ble_eq_true rfl) dL_law_686 hcl (fun H locs hP hP2 hS => ?_)
  refine lv_aload_n hx hb dL_law_689 rfl (lv_at hl 2 rfl) ?_
  refine lv_aload_n hx hb dL_law_690 rfl (lv_at hl 0 rfl) ?_
  refine lv_iload_n hx hb dL_law_691 rfl (lv_at hl 3 rfl) ?_
  refine lv_iconst (v := 1) hx hb dL_law_692 (by decide) ?_
  refine lv_iadd hx hb dL_law_693 ?_
  refine kl_rd (k := 1) hx hb hX hbl hS hL (by omega) (nI_add i 1) dL_law_694 ?_
  refine kl_call (n := 1) (As := [.int (xs (i + 1))]) (rest := [.int (hlast σ 0 (xs (i + 1)))]) (v := .int (m_event μ (xs (i + 1)))) (σ1 := μ) hx hb hml hown hts hK hZ (fun _ h => h) hJM hAM hP2 hP (hapM _) hS hl.1 (cM_event l D cA hJM μ (xs (i + 1))) wl_575 wl_576 wl_577 wl_5 wl_578 ⟨rfl, by decide +kernel, by decide +kernel, by decide +kernel⟩ ⟨Nat.le_of_ble_eq_true rfl, Nat.le_of_ble_eq_true rfl⟩ ⟨rfl, rfl⟩ (k := 0) (by omega) rfl rfl rfl rfl rfl (Nat.le_of_ble_eq_true rfl) dL_law_695 hcl (fun H locs hP2 hP hS => ?_)
  refine lv_icmp_eq (tgt := 726) hx hb dL_law_698 (by decide) (fun _ => ?_) (fun q9 => absurd eV q9)
  exact cont n c0 _ _ H locs (by omega) hR1 hP hP2 hS ls hl
theorem law_count (C0 : kl_C p s m args meth c D cA b L xs ad bd) {n c0 : Nat} {μ : MS} {σ : XS} (hcb : c0 + 1 < 2 ^ 31) (hR : RZ n c0 μ σ) {i : Nat} (hi : i + 6 ≤ L) (hcl : cells ≤ 600000 ∧ slots ≤ 7302250) (hP : va_P D classes (kw_W 36 ad (wX cA ad σ)) H) (hP2 : va_P D classes (kw_W 24 bd (wM cA bd μ)) H) (hS : va_S (fun q => s.heap.size ≤ q) s.heap H locs) {ls : Array Slot} (hl : lv_has ls 8 [(0, .ref b), (1, .ref (ad 0)), (2, .ref (bd 0)), (3, .int (nI i))])
    (cont : kl_N p l e s m args below meth c cells slots Q D cA b ad bd i c0) : W p l e room_1 s m args below meth c H locs cells slots Q (F0 m 703 ls []) := by
  obtain ⟨hx, hb, hml, hown, hts, hK, hZ, hJX, hJM, hAX, hAM, hap, hX, hbl, hL⟩ := C0
  have hapX : ∀ (E : Nat → va_E) (k : Nat) (q : Nat × va_E), (kw_W 24 bd E)[k]? = some q → ∀ i, i < 36 → ¬ q.1 = ad i := fun E k q hq i hi z => by
    obtain ⟨h1, rfl⟩ := kw_of hq
    exact hap i k hi h1 z.symm
  have hapM : ∀ (E : Nat → va_E) (k : Nat) (q : Nat × va_E), (kw_W 36 ad E)[k]? = some q → ∀ i, i < 24 → ¬ q.1 = bd i := fun E k q hq i hi z => by
    obtain ⟨h1, rfl⟩ := kw_of hq
    exact hap k i h1 hi z
  have eV := hR.1.count (xs (i + 1))
  have hR1 := hR
  refine lv_aload_n hx hb dL_law_703 rfl (lv_at hl 1 rfl) ?_
  refine lv_aload_n hx hb dL_law_704 rfl (lv_at hl 0 rfl) ?_
  refine lv_iload_n hx hb dL_law_705 rfl (lv_at hl 3 rfl) ?_
  refine lv_iconst (v := 1) hx hb dL_law_706 (by decide) ?_
  refine lv_iadd hx hb dL_law_707 ?_
  refine kl_rd (k := 1) hx hb hX hbl hS hL (by omega) (nI_add i 1) dL_law_708 ?_
  refine kl_call (n := 1) (As := [.int (xs (i + 1))]) (rest := []) (v := .int (x_count σ (xs (i + 1)))) (σ1 := σ) hx hb hml hown hts hK hZ (fun _ h => h) hJX hAX hP hP2 (hapX _) hS hl.1 (cX_count l D cA hJX σ (xs (i + 1))) wl_337 wl_338 wl_339 wl_1 wl_340 ⟨rfl, by decide +kernel, by decide +kernel, by decide +kernel⟩ ⟨Nat.le_of_ble_eq_true rfl, Nat.le_of_ble_eq_true rfl⟩ ⟨rfl, rfl⟩ (k := 0) (by omega) rfl rfl rfl rfl rfl (Nat.le_of_ble_eq_true rfl) dL_law_709 hcl (fun H locs hP hP2 hS => ?_)
  refine lv_aload_n hx hb dL_law_712 rfl (lv_at hl 2 rfl) ?_
  refine lv_aload_n hx hb dL_law_713 rfl (lv_at hl 0 rfl) ?_
  refine lv_iload_n hx hb dL_law_714 rfl (lv_at hl 3 rfl) ?_
  refine lv_iconst (v := 1) hx hb dL_law_715 (by decide) ?_
  refine lv_iadd hx hb dL_law_716 ?_
  refine kl_rd (k := 1) hx hb hX hbl hS hL (by omega) (nI_add i 1) dL_law_717 ?_
  refine kl_call (n := 1) (As := [.int (xs (i + 1))]) (rest := [.int (x_count σ (xs (i + 1)))]) (v := .int (m_count μ (xs (i + 1)))) (σ1 := μ) hx hb hml hown hts hK hZ (fun _ h => h) hJM hAM hP2 hP (hapM _) hS hl.1 (cM_count l D cA hJM μ (xs (i + 1)) n hR.1.hn hR.1.n1) wl_579 wl_580 wl_581 wl_5 wl_582 ⟨rfl, by decide +kernel, by decide +kernel, by decide +kernel⟩ ⟨Nat.le_of_ble_eq_true rfl, Nat.le_of_ble_eq_true rfl⟩ ⟨rfl, rfl⟩ (k := 0) (by omega) rfl rfl rfl rfl rfl (Nat.le_of_ble_eq_true rfl) dL_law_718 hcl (fun H locs hP2 hP hS => ?_)
  refine lv_icmp_eq (tgt := 726) hx hb dL_law_721 (by decide) (fun _ => ?_) (fun q9 => absurd eV q9)
  exact cont n c0 _ _ H locs (by omega) hR1 hP hP2 hS ls hl
theorem law_loop (C0 : kl_C p s m args meth c D cA b L xs ad bd) (hcl : cells ≤ 600000 ∧ slots ≤ 7302250)
    (fin : ∀ (H : Heap) (locs : List Loc), va_S (fun q => s.heap.size ≤ q) s.heap H locs → ∀ ls : Array Slot, W p l e room_1 s m args below meth c H locs cells slots Q (F0 m 732 ls [])) :
    ∀ (fu i n c0 : Nat) (μ : MS) (σ : XS), L - i < fu → i ≤ L → c0 ≤ 2 * i → RZ n c0 μ σ → ∀ (H : Heap) (locs : List Loc), va_P D classes (kw_W 36 ad (wX cA ad σ)) H → va_P D classes (kw_W 24 bd (wM cA bd μ)) H → va_S (fun q => s.heap.size ≤ q) s.heap H locs → ∀ ls : Array Slot, lv_has ls 8 [(0, .ref b), (1, .ref (ad 0)), (2, .ref (bd 0)), (3, .int (nI i))] → W p l e room_1 s m args below meth c H locs cells slots Q (F0 m 18 ls []) := by
  intro fu
  induction fu with
  | zero => intro i n c0 μ σ hm; exact absurd hm (Nat.not_lt_zero _)
  | succ fu ih =>
    intro i n c0 μ σ hm hi hc hR H locs hP hP2 hS ls hl
    obtain ⟨hx, hb, hml, hown, hts, hK, hZ, hJX, hJM, hAX, hAM, hap, hX, hbl, hL⟩ := id C0
    refine lv_iload_n hx hb dL_law_18 rfl (lv_at hl 3 rfl) ?_
    refine lv_aload_n hx hb dL_law_19 rfl (lv_at hl 0 rfl) ?_
    refine va_slen hx hb hX hbl (Nat.not_le.mpr hbl) hS dL_law_20 ?_
    refine lv_bipush (v := 6) hx hb dL_law_21 (by decide) ?_
    refine lv_isub hx hb dL_law_23 ?_
    have hL6 : (Int32.ofNat L - 6).toInt = (L : Int) - 6 := by
      have e1 : (Int32.ofNat L).toInt = (L : Int) := nI_toInt (n := L) (by omega)
      rw [Int32.toInt_sub, e1, show (6 : Int32).toInt = 6 from rfl]
      exact Int.bmod_eq_of_le (by omega) (by omega)
    refine lv_icmp_gt (tgt := 732) hx hb dL_law_24 (by decide) (fun _ => fin H locs hS ls) (fun q => ?_)
    have hi6 : i + 6 ≤ L := by
      rw [Int32.lt_iff_toInt_lt, hL6, nI_toInt (by omega)] at q
      omega
    refine lv_aload_n hx hb dL_law_27 rfl (lv_at hl 0 rfl) ?_
    refine lv_iload_n hx hb dL_law_28 rfl (lv_at hl 3 rfl) ?_
    refine kl_rd (k := 0) hx hb hX hbl hS hL (by omega) rfl dL_law_29 ?_
    refine lv_bipush (v := 31) hx hb dL_law_30 (by decide) ?_
    refine lv_iand hx hb dL_law_32 ?_
    have hcb : c0 + 1 < 2 ^ 31 := by omega
    have hk : kl_N p l e s m args below meth c cells slots Q D cA b ad bd i c0 := by
      intro n1 c1 μ1 σ1 H locs hc1 hR1 hP hP2 hS ls hl
      refine lv_iinc (v := nI (i + 6)) (lv' := [(3, .int (nI (i + 6))), (0, .ref b), (1, .ref (ad 0)), (2, .ref (bd 0))]) hx hb dL_law_726 hl (k := 3) rfl (nI_add i 6) (by decide) rfl (fun ls hl => ?_)
      refine lv_goto (tgt := 18) hx hb dL_law_729 (by decide) ?_
      exact ih (i + 6) n1 c1 μ1 σ1 (by omega) (by omega) (by omega) hR1 H locs hP hP2 hS ls (lv_sub hl [1, 2, 3, 0] rfl)
    obtain ⟨t, ht, et⟩ : ∃ t : Nat, t < 32 ∧ xs (i + 0) &&& 31 = nI t := ⟨(xs (i + 0)).toBitVec.toNat % 32, Nat.mod_lt _ (by omega), pk_and _ 5 (by decide)⟩
    refine kx_topi0 et ?_
    by_cases ht18 : t < 18
    · rcases (show t = 0 ∨ t = 1 ∨ t = 2 ∨ t = 3 ∨ t = 4 ∨ t = 5 ∨ t = 6 ∨ t = 7 ∨ t = 8 ∨ t = 9 ∨ t = 10 ∨ t = 11 ∨ t = 12 ∨ t = 13 ∨ t = 14 ∨ t = 15 ∨ t = 16 ∨ t = 17 by omega) with rfl | rfl | rfl | rfl | rfl | rfl | rfl | rfl | rfl | rfl | rfl | rfl | rfl | rfl | rfl | rfl | rfl | rfl
      · exact kl_tab hx hb rfl (by decide) (by decide) (off := 87) (by decide) (by decide) (law_install C0 hcb hR hi6 hcl hP hP2 hS hl hk)
      · exact kl_tab hx hb rfl (by decide) (by decide) (off := 110) (by decide) (by decide) (law_uninstall C0 hcb hR hi6 hcl hP hP2 hS hl hk)
      · exact kl_tab hx hb rfl (by decide) (by decide) (off := 133) (by decide) (by decide) (law_need C0 hcb hR hi6 hcl hP hP2 hS hl hk)
      · exact kl_tab hx hb rfl (by decide) (by decide) (off := 192) (by decide) (by decide) (law_serve C0 hcb hR hi6 hcl hP hP2 hS hl hk)
      · exact kl_tab hx hb rfl (by decide) (by decide) (off := 235) (by decide) (by decide) (law_extend C0 hcb hR hi6 hcl hP hP2 hS hl hk)
      · exact kl_tab hx hb rfl (by decide) (by decide) (off := 308) (by decide) (by decide) (law_start C0 hcb hR hi6 hcl hP hP2 hS hl hk)
      · exact kl_tab hx hb rfl (by decide) (by decide) (off := 331) (by decide) (by decide) (law_stop C0 hcb hR hi6 hcl hP hP2 hS hl hk)
      · exact kl_tab hx hb rfl (by decide) (by decide) (off := 354) (by decide) (by decide) (law_startAll C0 hcb hR hi6 hcl hP hP2 hS hl hk)
      · exact kl_tab hx hb rfl (by decide) (by decide) (off := 367) (by decide) (by decide) (law_call C0 hcb hR hi6 hcl hP hP2 hS hl hk)
      · exact kl_tab hx hb rfl (by decide) (by decide) (off := 400) (by decide) (by decide) (law_forgive C0 hcb hR hi6 hcl hP hP2 hS hl hk)
      · exact kl_tab hx hb rfl (by decide) (by decide) (off := 423) (by decide) (by decide) (law_state C0 hcb hR hi6 hcl hP hP2 hS hl hk)
      · exact kl_tab hx hb rfl (by decide) (by decide) (off := 446) (by decide) (by decide) (law_extension C0 hcb hR hi6 hcl hP hP2 hS hl hk)
      · exact kl_tab hx hb rfl (by decide) (by decide) (off := 479) (by decide) (by decide) (law_at C0 hcb hR hi6 hcl hP hP2 hS hl hk)
      · exact kl_tab hx hb rfl (by decide) (by decide) (off := 512) (by decide) (by decide) (law_weight C0 hcb hR hi6 hcl hP hP2 hS hl hk)
      · exact kl_tab hx hb rfl (by decide) (by decide) (off := 563) (by decide) (by decide) (law_ordinal C0 hcb hR hi6 hcl hP hP2 hS hl hk)
      · exact kl_tab hx hb rfl (by decide) (by decide) (off := 614) (by decide) (by decide) (law_fault C0 hcb hR hi6 hcl hP hP2 hS hl hk)
      · exact kl_tab hx hb rfl (by decide) (by decide) (off := 647) (by decide) (by decide) (law_event C0 hcb hR hi6 hcl hP hP2 hS hl hk)
      · exact kl_tab hx hb rfl (by decide) (by decide) (off := 670) (by decide) (by decide) (law_count C0 hcb hR hi6 hcl hP hP2 hS hl hk)
    · refine lv_tableOut (tgt := 726) hx hb dL_law_33 (Or.inr ?_) (by decide) ?_
      · rw [nI_toInt (by omega)]; omega
      · exact hk n c0 μ σ H locs (by omega) hR hP hP2 hS ls hl
end LW
