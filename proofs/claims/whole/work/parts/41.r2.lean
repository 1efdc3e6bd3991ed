/-! sums, the order of the extensions -/
theorem sN_congr {w w' : Nat → Int} : ∀ n, (∀ k, k < n → w k = w' k) → sN w n = sN w' n := by
  intro n
  induction n with
  | zero => intro _; rfl
  | succ n ih => intro h; simp only [sN]; rw [ih (fun k hk => h k (by omega)), h n (by omega)]
theorem sN_zero {w : Nat → Int} (n : Nat) (h : ∀ k, k < n → w k = 0) : sN w n = 0 := by
  induction n with
  | zero => rfl
  | succ n ih => simp only [sN]; rw [ih (fun k hk => h k (by omega)), h n (by omega)]; rfl
theorem sN_more {w : Nat → Int} (n m : Nat) (h : ∀ k, n ≤ k → k < n + m → w k = 0) : sN w (n + m) = sN w n := by
  induction m with
  | zero => rfl
  | succ m ih => rw [← Nat.add_assoc]; simp only [sN]; rw [ih (fun k h1 h2 => h k h1 (by omega)), h _ (by omega) (by omega)]; omega
theorem sN_upd {w : Nat → Int} {s : Nat → Nat} {q v : Nat} : ∀ n, q < n → sN (fun k => w (if k = q then v else s k)) n = sN (fun k => w (s k)) n - w (s q) + w v := by
  intro n
  induction n with
  | zero => intro h; omega
  | succ n ih =>
    intro h
    simp only [sN]
    by_cases e : n = q
    · subst e
      rw [if_pos rfl, sN_congr (w := fun k => w (if k = n then v else s k)) (w' := fun k => w (s k)) n (fun k hk => by rw [if_neg (by omega)])]
      omega
    · rw [ih (by omega), if_neg e]
      omega
theorem sN_one (e : Nat) : ∀ n, e < n → sN (fun j => if j = e then 1 else 0) n = 1 := by
  intro n
  induction n with
  | zero => intro h; omega
  | succ n ih =>
    intro h
    simp only [sN]
    by_cases q : n = e
    · subst q
      rw [sN_zero n (fun k hk => if_neg (by omega)), if_pos rfl]; rfl
    · rw [ih (by omega), if_neg q]; rfl
theorem OD.sur {n : Nat} {key : Nat → Int32} {s : Nat → Nat} (h : OD n key s) {e : Nat} (he : e < 16) : ∃ k, k < 16 ∧ s k = e := by
  refine Classical.byContradiction fun z => ?_
  have h1 := h.sm (fun j => if j = e then 1 else 0)
  rw [sN_one e 16 he, sN_zero 16 (fun k hk => if_neg (fun q => z ⟨k, hk, q⟩))] at h1
  exact absurd h1 (by decide)
/-! uninstall -/
def updF (g : Nat → Nat → Int32) (f : Nat) (a : Nat → Int32) : Nat → Nat → Int32 := fun f' => if f' = f then a else g f'
theorem updF_of {g g' : Nat → Nat → Int32} {f : Nat} (h : ∀ f', f' ≠ f → g' f' = g f') : g' = updF g f (g' f) := by
  funext f'
  simp only [updF]
  split
  · rename_i q; rw [q]
  · rename_i q; exact h f' q
theorem RC.chg7 {n c : Nat} {μ : MS} {σ : XS} (h : RC n c μ σ) {μ' : MS} {σ' : XS} (hM : ∀ f, f ≠ 7 → μ' f = μ f) (hX : ∀ f, f ≠ 11 → σ'.1 f = σ.1 f) (h2 : σ'.2 = σ.2)
    (pr : ∀ e, e < 16 → (¬ σ'.1 11 e = 0 ↔ e < n ∧ ¬ μ' 7 e < 0)) (pp : ∀ e, e < 16 → ¬ σ'.1 11 e = 0 → σ.1 12 e = μ' 7 e) (pm : plM μ') : RC n c μ' σ' := by
  obtain ⟨g, s⟩ := σ'
  dsimp only at hX h2 pr pp
  subst h2
  have e1 := updF_of hM
  have e2 := updF_of hX
  generalize μ' 7 = a at e1 pr pp
  generalize g 11 = b at e2 pr pp
  subst e1 e2
  exact ⟨h.p1, h.p2, h.p3, h.p4, h.p5, h.bt, h.hn, h.n1, h.n2, h.c1, h.c2, h.ck, pr, pp, h.px, pm, h.e3, h.e4, h.e5, h.e6, h.e7, h.e8, h.er, h.fl, h.v1, h.v2, h.f1, h.f2, h.f3, h.fr, h.od⟩
theorem x_unl_f' {σ : XS} {x : Int32} {m f : Nat} (h : f ≠ 11) : (x_unl σ x m).1 f = σ.1 f := by
  induction m with
  | zero => rfl
  | succ m ih =>
    simp only [x_unl]
    split
    · rw [xs_f h, ih]
    · exact ih
theorem x_unl_11 {σ : XS} {x : Int32} {m e : Nat} : (x_unl σ x m).1 11 e = if (∃ k, k < m ∧ σ.2 k = e) ∧ σ.1 12 e = x then 0 else σ.1 11 e := by
  induction m with
  | zero => simp [x_unl]
  | succ m ih =>
    simp only [x_unl, x_unl_2, x_unl_f' (show (12 : Nat) ≠ 11 by omega)]
    by_cases q : σ.2 m = e
    · subst q
      by_cases q2 : σ.1 12 (σ.2 m) = x
      · rw [if_pos q2, xs_u, upd_at, if_pos rfl, if_pos ⟨⟨m, by omega, rfl⟩, q2⟩]
      · rw [if_neg q2, ih, if_neg (fun z => q2 z.2), if_neg (fun z => q2 z.2)]
    · have e1 : (∃ k, k < m + 1 ∧ σ.2 k = e) ↔ (∃ k, k < m ∧ σ.2 k = e) := by
        constructor
        · rintro ⟨k, hk, hk2⟩
          by_cases z : k = m
          · subst z; exact absurd hk2 q
          · exact ⟨k, by omega, hk2⟩
        · rintro ⟨k, hk, hk2⟩; exact ⟨k, by omega, hk2⟩
      simp only [e1]
      rw [← ih]
      split
      · rw [xs_u, upd_at, if_neg (fun z => q z.symm)]
      · rfl
theorem m_unl_f' {μ : MS} {x : Int32} {m f : Nat} (h : f ≠ 7) : m_unl μ x m f = μ f := by
  induction m with
  | zero => rfl
  | succ m ih =>
    simp only [m_unl]
    split
    · rw [upd2_f h, ih]
    · exact ih
theorem m_unl_7 {μ : MS} {x : Int32} {m e : Nat} : m_unl μ x m 7 e = if e < m ∧ μ 7 e = x then -1 else μ 7 e := by
  induction m generalizing e with
  | zero => simp [m_unl]
  | succ m ih =>
    simp only [m_unl]
    have e0 : m_unl μ x m 7 m = μ 7 m := by rw [ih, if_neg (by omega)]
    rw [e0]
    by_cases q : e = m
    · subst q
      by_cases q2 : μ 7 e = x
      · rw [if_pos q2, upd2_u, upd_at, if_pos rfl, if_pos ⟨by omega, q2⟩]
      · rw [if_neg q2, e0, if_neg (fun z => q2 z.2)]
    · have e1 : (e < m + 1 ∧ μ 7 e = x) ↔ (e < m ∧ μ 7 e = x) := by
        constructor
        · rintro ⟨z, z2⟩; exact ⟨by omega, z2⟩
        · rintro ⟨z, z2⟩; exact ⟨by omega, z2⟩
      simp only [e1]
      rw [← ih]
      split
      · rw [upd2_u, upd_at, if_neg q]
      · rfl
theorem RC.unl {n c : Nat} {μ : MS} {σ : XS} (h : RC n c μ σ) (x : Int32) (hx : ¬ x < 0) : RC n c (m_unl μ x n) (x_unl σ x 16) := by
  have hn := h.hn
  refine h.chg7 (fun f hf => m_unl_f' hf) (fun f hf => x_unl_f' hf) x_unl_2 (fun e he => ?_) (fun e he hp => ?_) (fun e he => ?_)
  · have hs := h.od.sur he
    have h1 := h.pr e he
    have h2 := h.pp e he
    by_cases q : σ.1 11 e = 0
    · have e1 : (x_unl σ x 16).1 11 e = 0 := by rw [x_unl_11]; split <;> simp [q]
      rw [e1, m_unl_7]
      refine ⟨fun z => absurd rfl z, ?_⟩
      rintro ⟨z1, z2⟩
      exfalso
      refine h1.mpr ⟨z1, ?_⟩ q
      intro z3
      apply z2
      split
      · decide
      · exact z3
    · have e2 := h2 q
      have h3 := h1.mp q
      rw [x_unl_11, m_unl_7, e2]
      by_cases q2 : μ 7 e = x
      · rw [if_pos ⟨hs, q2⟩, if_pos ⟨h3.1, q2⟩]
        exact ⟨fun z => absurd rfl z, fun z => absurd (show (-1 : Int32) < 0 by decide) z.2⟩
      · rw [if_neg (fun z => q2 z.2), if_neg (fun z => q2 z.2)]
        exact h1
  · rw [x_unl_11] at hp
    rw [m_unl_7]
    by_cases q : σ.1 12 e = x
    · rw [if_pos ⟨h.od.sur he, q⟩] at hp
      exact absurd rfl hp
    · rw [if_neg (fun z => q z.2)] at hp
      have e2 := h.pp e he hp
      rw [if_neg (fun z => q (by rw [e2]; exact z.2))]
      exact e2
  · rw [m_unl_7]
    split
    · exact Or.inl (by decide)
    · exact h.pm e he
theorem RC.clear {n c : Nat} {μ : MS} {σ : XS} (h : RC n c μ σ) (i : Nat) : RC n c (m_clear μ i) (x_clear σ i) := by
  have h1 : RC n c (upd2 (upd2 (upd2 μ 1 i 0) 2 i 0) 3 i 0) (xs (xs (xs σ 1 i 0) 2 i 0) 3 i 0) := by
    have h0 := h.set1 i (v := 0) (by decide)
    refine ⟨h0.p1, by rw [xs_f (by omega), xs_u, upd2_f (by omega), upd2_u, h0.p2], by rw [xs_u, upd2_u, xs_f (by omega), upd2_f (by omega), h0.p3], h0.p4, h0.p5, ?_, h0.hn, h0.n1, h0.n2, h0.c1, h0.c2, h0.ck, h0.pr, h0.pp, h0.px, h0.pm, h0.e3, h0.e4, h0.e5, h0.e6, h0.e7, h0.e8, h0.er, h0.fl, h0.v1, h0.v2, h0.f1, h0.f2, h0.f3, h0.fr, h0.od⟩
    intro k hk
    obtain ⟨A, B, g⟩ := h0.bt k hk
    rw [upd2_f (show (2 : Nat) ≠ 3 by omega), upd2_u, upd2_u, upd2_f (show (3 : Nat) ≠ 2 by omega), upd_at, upd_at]
    by_cases q : k = i
    · rw [if_pos q, if_pos q]
      exact ⟨0, 0, by omega, by omega, rfl, rfl, by decide +kernel⟩
    · rw [if_neg q, if_neg q]
      exact ⟨A, B, g⟩
  exact h1.set4 i 0
theorem RC.uninstall {n c : Nat} {μ : MS} {σ : XS} (h : RC n c μ σ) (x : Int32) : (x_uninstall σ x).1 = (m_uninstall μ x).1 ∧ RC n c (m_uninstall μ x).2 (x_uninstall σ x).2 := by
  have hn := h.hn
  simp only [x_uninstall, m_uninstall, in8_R, h.p1, h.n1, pn_nI (show n < 2 ^ 31 by omega)]
  split
  · rename_i q
    have g := (h.clear (pn x)).unl x (of_decide_eq_true q.1).1
    dsimp only
    exact ⟨rfl, g⟩
  · exact ⟨rfl, h⟩
/-! bits -/
def popN (A : Nat) : Nat → Nat
  | 0 => 0
  | k + 1 => popN A k + if A.testBit k then 1 else 0
theorem pop_M : ∀ A, A < 256 → m_bits (nI A) 8 = nI (popN A 8) := by decide +kernel
theorem pop_X : ∀ A, A < 256 → bitC (nI A) = nI (popN A 8) := by decide +kernel
theorem bit_t : ∀ A, A < 256 → ∀ j, j < 8 → bitb (nI A) (nI j) = A.testBit j := by decide +kernel
theorem bit_1 : ∀ j, j < 8 → (1 : Int32) <<< (nI j &&& 31) = nI (2 ^ j) := by decide +kernel
theorem bit_8 : ∀ j, j < 8 → 2 ^ j < 256 := by decide
theorem nI_or (A B : Nat) : nI A ||| nI B = nI (A ||| B) := by
  apply Int32.toBitVec_inj.mp
  rw [Int32.toBitVec_or]
  exact BitVec.ofNat_or.symm
theorem or_256 {A B : Nat} (hA : A < 256) (hB : B < 256) : A ||| B < 256 := Nat.or_lt_two_pow (n := 8) hA hB
theorem popN_or {A B : Nat} : ∀ k, (∀ j, j < k → ¬ (A.testBit j = true ∧ B.testBit j = true)) → popN (A ||| B) k = popN A k + popN B k := by
  intro k
  induction k with
  | zero => intro _; rfl
  | succ k ih =>
    intro h
    simp only [popN]
    rw [ih (fun j hj => h j (by omega)), Nat.testBit_or]
    have := h k (by omega)
    by_cases q1 : A.testBit k = true
    · by_cases q2 : B.testBit k = true
      · exact absurd ⟨q1, q2⟩ this
      · simp [q1, q2]; omega
    · by_cases q2 : B.testBit k = true
      · simp [q1, q2]; omega
      · simp [q1, q2]
theorem RC.bits {n c : Nat} {μ : MS} {σ : XS} (h : RC n c μ σ) (k : Nat) (hk : k < 8) : ∃ A B : Nat, A < 256 ∧ B < 256 ∧ μ 2 k = nI A ∧ μ 3 k = nI B ∧ ∀ j, j < 8 → ¬ (A.testBit j = true ∧ B.testBit j = true) := by
  obtain ⟨A, B, h1, h2, h3, h4, h5⟩ := h.bt k hk
  refine ⟨A, B, h1, h2, h3, h4, fun j hj => ?_⟩
  rw [← bit_t A h1 j hj, ← bit_t B h2 j hj]
  exact h5 j hj
theorem RC.set2 {n c : Nat} {μ : MS} {σ : XS} (h : RC n c μ σ) {i A B : Nat} (hA : A < 256) (hB : B < 256) (h3 : μ 3 i = nI B) (hd : ∀ j, j < 8 → ¬ (A.testBit j = true ∧ B.testBit j = true)) : RC n c (upd2 μ 2 i (nI A)) (xs σ 2 i (nI A)) := by
  refine ⟨h.p1, by rw [xs_u, upd2_u, h.p2], h.p3, h.p4, h.p5, ?_, h.hn, h.n1, h.n2, h.c1, h.c2, h.ck, h.pr, h.pp, h.px, h.pm, h.e3, h.e4, h.e5, h.e6, h.e7, h.e8, h.er, h.fl, h.v1, h.v2, h.f1, h.f2, h.f3, h.fr, h.od⟩
  intro k hk
  rw [upd2_u, upd_at]
  by_cases q : k = i
  · subst q
    rw [if_pos rfl]
    refine ⟨A, B, hA, hB, rfl, h3, fun j hj => ?_⟩
    rw [bit_t A hA j hj, bit_t B hB j hj]
    exact hd j hj
  · rw [if_neg q]; exact h.bt k hk
theorem RC.set3 {n c : Nat} {μ : MS} {σ : XS} (h : RC n c μ σ) {i A B : Nat} (hA : A < 256) (hB : B < 256) (h2 : μ 2 i = nI A) (hd : ∀ j, j < 8 → ¬ (A.testBit j = true ∧ B.testBit j = true)) : RC n c (upd2 μ 3 i (nI B)) (xs σ 3 i (nI B)) := by
  refine ⟨h.p1, h.p2, by rw [xs_u, upd2_u, h.p3], h.p4, h.p5, ?_, h.hn, h.n1, h.n2, h.c1, h.c2, h.ck, h.pr, h.pp, h.px, h.pm, h.e3, h.e4, h.e5, h.e6, h.e7, h.e8, h.er, h.fl, h.v1, h.v2, h.f1, h.f2, h.f3, h.fr, h.od⟩
  intro k hk
  rw [upd2_u, upd_at]
  by_cases q : k = i
  · subst q
    rw [if_pos rfl]
    refine ⟨A, B, hA, hB, h2, rfl, fun j hj => ?_⟩
    rw [bit_t A hA j hj, bit_t B hB j hj]
    exact hd j hj
  · rw [if_neg q]; exact h.bt k hk
theorem RC.need {n c : Nat} {μ : MS} {σ : XS} (h : RC n c μ σ) (x1 x2 x3 : Int32) : (x_need σ x1 x2 x3).1 = (m_need μ x1 x2 x3).1 ∧ RC n c (m_need μ x1 x2 x3).2 (x_need σ x1 x2 x3).2 := by
  by_cases g1 : goneM μ x1 = true
  · simp only [x_need, m_need, h.there, g1]
    rw [if_neg (by simp), if_neg (by simp)]
    exact ⟨rfl, h⟩
  by_cases g2 : inR x2 0 7 = true
  · obtain ⟨i, hi, rfl⟩ := goneM_of g1
    obtain ⟨j, hj, rfl⟩ := inR07_of g2
    obtain ⟨A, B, a1, a2, a3, a4, a5⟩ := h.bits i hi
    have hP : pn (nI i) = i := pn_nI (by omega)
    have cM : (((nI A ||| nI B) >>> (nI j &&& 31)) &&& 1 = 0) ↔ ¬ A.testBit j = true ∧ ¬ B.testBit j = true := by
      rw [← Classical.not_not (a := ((nI A ||| nI B) >>> (nI j &&& 31)) &&& 1 = 0), ← bitb_iff, nI_or, bit_t _ (or_256 a1 a2) j hj, Nat.testBit_or, Bool.or_eq_true, not_or]
    have t1 : thereX σ (nI i) = true := by rw [h.there]; simp [g1]
    simp only [x_need, m_need, in8_R, hP, h.p2, h.p3, a3, a4, g2, t1, g1, bit_t A a1 j hj, bit_t B a2 j hj, cM]
    have cE : (nI j = nI i) ↔ (nI i = nI j) := eq_comm
    simp only [cE, true_and, not_false_iff, Bool.false_eq_true]
    by_cases q : ¬ nI i = nI j ∧ ¬ A.testBit j = true ∧ ¬ B.testBit j = true
    · have hJ : ∀ j', j' < 8 → (2 ^ j).testBit j' = true → j' = j := fun j' _ hz => by
        rw [Nat.testBit_two_pow, decide_eq_true_iff] at hz
        exact hz.symm
      rw [if_pos q, if_pos q, bit_1 j hj, nI_or, nI_or]
      have b1 := or_256 a1 (bit_8 j hj)
      have b2 := or_256 a2 (bit_8 j hj)
      have d1 : ∀ j', j' < 8 → ¬ ((A ||| 2 ^ j).testBit j' = true ∧ B.testBit j' = true) := by
        intro j' hj'
        rw [Nat.testBit_or, Bool.or_eq_true]
        rintro ⟨z1 | z1, z2⟩
        · exact a5 j' hj' ⟨z1, z2⟩
        · rw [hJ j' hj' z1] at z2; exact q.2.2 z2
      have d2 : ∀ j', j' < 8 → ¬ (A.testBit j' = true ∧ (B ||| 2 ^ j).testBit j' = true) := by
        intro j' hj'
        rw [Nat.testBit_or, Bool.or_eq_true]
        rintro ⟨z1, z2 | z2⟩
        · exact a5 j' hj' ⟨z1, z2⟩
        · rw [hJ j' hj' z2] at z1; exact q.2.1 z1
      by_cases q3 : x3 = 0
      · simp only [q3, if_true]
        refine ⟨?_, h.set2 b1 a2 a4 d1⟩
        rw [nI_or, pop_X _ b1, pop_X _ a2, pop_M _ (or_256 b1 a2), popN_or 8 d1, nI_add]
      · simp only [q3, if_false]
        refine ⟨?_, h.set3 a1 b2 a3 d2⟩
        rw [nI_or, pop_X _ a1, pop_X _ b2, pop_M _ (or_256 a1 b2), popN_or 8 d2, nI_add]
    · rw [if_neg q, if_neg q]
      exact ⟨rfl, h⟩
  · simp only [x_need, m_need, in8_R, g2]
    rw [if_neg (by simp), if_neg (by simp)]
    exact ⟨rfl, h⟩
