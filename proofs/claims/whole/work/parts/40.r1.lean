/-! the two raw states side by side -/
def sN (w : Nat → Int) : Nat → Int
  | 0 => 0
  | n + 1 => sN w n + w n
def lex (key : Nat → Int32) (a b : Nat) : Prop := key a < key b ∨ (key a = key b ∧ a < b)
def OD (n : Nat) (key : Nat → Int32) (s : Nat → Nat) : Prop := (∀ w : Nat → Int, sN (fun k => w (s k)) 16 = sN w 16) ∧ (∀ k, n ≤ k → k < 16 → s k = k) ∧ (∀ k, k < 16 → s k < 16) ∧ (∀ k, k < n → s k < n) ∧ (∀ a b, a < b → b < n → lex key (s a) (s b))
theorem OD.sm {n : Nat} {key : Nat → Int32} {s : Nat → Nat} (h : OD n key s) : ∀ w : Nat → Int, sN (fun k => w (s k)) 16 = sN w 16 := h.1
theorem OD.tl {n : Nat} {key : Nat → Int32} {s : Nat → Nat} (h : OD n key s) : ∀ k, n ≤ k → k < 16 → s k = k := h.2.1
theorem OD.lt {n : Nat} {key : Nat → Int32} {s : Nat → Nat} (h : OD n key s) : ∀ k, k < 16 → s k < 16 := h.2.2.1
theorem OD.lo {n : Nat} {key : Nat → Int32} {s : Nat → Nat} (h : OD n key s) : ∀ k, k < n → s k < n := h.2.2.2.1
theorem OD.so {n : Nat} {key : Nat → Int32} {s : Nat → Nat} (h : OD n key s) : ∀ a b, a < b → b < n → lex key (s a) (s b) := h.2.2.2.2
def RC (n c : Nat) (μ : MS) (σ : XS) : Prop := (σ.1 1 = μ 1) ∧ (σ.1 2 = μ 2) ∧ (σ.1 3 = μ 3) ∧ (σ.1 4 = μ 4) ∧ (σ.1 5 = μ 5) ∧ (∀ k, k < 8 → ∃ A B : Nat, A < 256 ∧ B < 256 ∧ μ 2 k = nI A ∧ μ 3 k = nI B ∧ ∀ j, j < 8 → ¬ (bitb (nI A) (nI j) = true ∧ bitb (nI B) (nI j) = true)) ∧ (n ≤ 16) ∧ (μ 31 0 = nI n) ∧ (σ.1 27 0 = nI n) ∧ (μ 30 0 = nI c) ∧ (σ.1 28 0 = nI c) ∧ (∀ k, k < 8 → μ 1 k = 2 → ∃ s : Nat, s < c ∧ μ 6 k = nI (s + 1) ∧ σ.1 6 k = nI s) ∧ (∀ e, e < 16 → (¬ σ.1 11 e = 0 ↔ e < n ∧ ¬ μ 7 e < 0)) ∧ (∀ e, e < 16 → ¬ σ.1 11 e = 0 → σ.1 12 e = μ 7 e) ∧ (∀ e, e < 16 → ∃ j : Nat, j < 8 ∧ σ.1 12 e = nI j) ∧ (plM μ) ∧ (σ.1 13 = μ 8) ∧ (σ.1 14 = μ 9) ∧ (σ.1 15 = μ 10) ∧ (σ.1 16 = μ 11) ∧ (σ.1 17 = μ 12) ∧ (σ.1 18 = μ 13) ∧ (∀ e, e < n → (∃ j : Nat, j < 3 ∧ μ 8 e = nI j) ∧ ∃ j : Nat, j < 9 ∧ μ 9 e = nI j) ∧ (∀ e, e < 16 → ∃ k : Nat, k ≤ 3 ∧ μ 12 e = nI k ∧ (μ 14 e = 0 ↔ k < 3)) ∧ (σ.1 30 0 = μ 33 0) ∧ (σ.1 40 = μ 16) ∧ (σ.1 31 0 = μ 32 0) ∧ (σ.1 32 0 = μ 32 0) ∧ (σ.1 33 0 = μ 32 0) ∧ (∀ i, i < 8 → σ.1 41 (lo4 (μ 32 0 - 1 - nI i)) = μ 15 (3 * lo3 (μ 32 0 - 1 - nI i)) ∧ σ.1 42 (lo4 (μ 32 0 - 1 - nI i)) = μ 15 (3 * lo3 (μ 32 0 - 1 - nI i) + 1) ∧ σ.1 43 (lo4 (μ 32 0 - 1 - nI i)) = μ 15 (3 * lo3 (μ 32 0 - 1 - nI i) + 2)) ∧ (OD n (μ 11) σ.2)
theorem RC.p1 {n c : Nat} {μ : MS} {σ : XS} (h : RC n c μ σ) : σ.1 1 = μ 1 := h.1
theorem RC.p2 {n c : Nat} {μ : MS} {σ : XS} (h : RC n c μ σ) : σ.1 2 = μ 2 := h.2.1
theorem RC.p3 {n c : Nat} {μ : MS} {σ : XS} (h : RC n c μ σ) : σ.1 3 = μ 3 := h.2.2.1
theorem RC.p4 {n c : Nat} {μ : MS} {σ : XS} (h : RC n c μ σ) : σ.1 4 = μ 4 := h.2.2.2.1
theorem RC.p5 {n c : Nat} {μ : MS} {σ : XS} (h : RC n c μ σ) : σ.1 5 = μ 5 := h.2.2.2.2.1
theorem RC.bt {n c : Nat} {μ : MS} {σ : XS} (h : RC n c μ σ) : ∀ k, k < 8 → ∃ A B : Nat, A < 256 ∧ B < 256 ∧ μ 2 k = nI A ∧ μ 3 k = nI B ∧ ∀ j, j < 8 → ¬ (bitb (nI A) (nI j) = true ∧ bitb (nI B) (nI j) = true) := h.2.2.2.2.2.1
theorem RC.hn {n c : Nat} {μ : MS} {σ : XS} (h : RC n c μ σ) : n ≤ 16 := h.2.2.2.2.2.2.1
theorem RC.n1 {n c : Nat} {μ : MS} {σ : XS} (h : RC n c μ σ) : μ 31 0 = nI n := h.2.2.2.2.2.2.2.1
theorem RC.n2 {n c : Nat} {μ : MS} {σ : XS} (h : RC n c μ σ) : σ.1 27 0 = nI n := h.2.2.2.2.2.2.2.2.1
theorem RC.c1 {n c : Nat} {μ : MS} {σ : XS} (h : RC n c μ σ) : μ 30 0 = nI c := h.2.2.2.2.2.2.2.2.2.1
theorem RC.c2 {n c : Nat} {μ : MS} {σ : XS} (h : RC n c μ σ) : σ.1 28 0 = nI c := h.2.2.2.2.2.2.2.2.2.2.1
theorem RC.ck {n c : Nat} {μ : MS} {σ : XS} (h : RC n c μ σ) : ∀ k, k < 8 → μ 1 k = 2 → ∃ s : Nat, s < c ∧ μ 6 k = nI (s + 1) ∧ σ.1 6 k = nI s := h.2.2.2.2.2.2.2.2.2.2.2.1
theorem RC.pr {n c : Nat} {μ : MS} {σ : XS} (h : RC n c μ σ) : ∀ e, e < 16 → (¬ σ.1 11 e = 0 ↔ e < n ∧ ¬ μ 7 e < 0) := h.2.2.2.2.2.2.2.2.2.2.2.2.1
theorem RC.pp {n c : Nat} {μ : MS} {σ : XS} (h : RC n c μ σ) : ∀ e, e < 16 → ¬ σ.1 11 e = 0 → σ.1 12 e = μ 7 e := h.2.2.2.2.2.2.2.2.2.2.2.2.2.1
theorem RC.px {n c : Nat} {μ : MS} {σ : XS} (h : RC n c μ σ) : ∀ e, e < 16 → ∃ j : Nat, j < 8 ∧ σ.1 12 e = nI j := h.2.2.2.2.2.2.2.2.2.2.2.2.2.2.1
theorem RC.pm {n c : Nat} {μ : MS} {σ : XS} (h : RC n c μ σ) : plM μ := h.2.2.2.2.2.2.2.2.2.2.2.2.2.2.2.1
theorem RC.e3 {n c : Nat} {μ : MS} {σ : XS} (h : RC n c μ σ) : σ.1 13 = μ 8 := h.2.2.2.2.2.2.2.2.2.2.2.2.2.2.2.2.1
theorem RC.e4 {n c : Nat} {μ : MS} {σ : XS} (h : RC n c μ σ) : σ.1 14 = μ 9 := h.2.2.2.2.2.2.2.2.2.2.2.2.2.2.2.2.2.1
theorem RC.e5 {n c : Nat} {μ : MS} {σ : XS} (h : RC n c μ σ) : σ.1 15 = μ 10 := h.2.2.2.2.2.2.2.2.2.2.2.2.2.2.2.2.2.2.1
theorem RC.e6 {n c : Nat} {μ : MS} {σ : XS} (h : RC n c μ σ) : σ.1 16 = μ 11 := h.2.2.2.2.2.2.2.2.2.2.2.2.2.2.2.2.2.2.2.1
theorem RC.e7 {n c : Nat} {μ : MS} {σ : XS} (h : RC n c μ σ) : σ.1 17 = μ 12 := h.2.2.2.2.2.2.2.2.2.2.2.2.2.2.2.2.2.2.2.2.1
theorem RC.e8 {n c : Nat} {μ : MS} {σ : XS} (h : RC n c μ σ) : σ.1 18 = μ 13 := h.2.2.2.2.2.2.2.2.2.2.2.2.2.2.2.2.2.2.2.2.2.1
theorem RC.er {n c : Nat} {μ : MS} {σ : XS} (h : RC n c μ σ) : ∀ e, e < n → (∃ j : Nat, j < 3 ∧ μ 8 e = nI j) ∧ ∃ j : Nat, j < 9 ∧ μ 9 e = nI j := h.2.2.2.2.2.2.2.2.2.2.2.2.2.2.2.2.2.2.2.2.2.2.1
theorem RC.fl {n c : Nat} {μ : MS} {σ : XS} (h : RC n c μ σ) : ∀ e, e < 16 → ∃ k : Nat, k ≤ 3 ∧ μ 12 e = nI k ∧ (μ 14 e = 0 ↔ k < 3) := h.2.2.2.2.2.2.2.2.2.2.2.2.2.2.2.2.2.2.2.2.2.2.2.1
theorem RC.v1 {n c : Nat} {μ : MS} {σ : XS} (h : RC n c μ σ) : σ.1 30 0 = μ 33 0 := h.2.2.2.2.2.2.2.2.2.2.2.2.2.2.2.2.2.2.2.2.2.2.2.2.1
theorem RC.v2 {n c : Nat} {μ : MS} {σ : XS} (h : RC n c μ σ) : σ.1 40 = μ 16 := h.2.2.2.2.2.2.2.2.2.2.2.2.2.2.2.2.2.2.2.2.2.2.2.2.2.1
theorem RC.f1 {n c : Nat} {μ : MS} {σ : XS} (h : RC n c μ σ) : σ.1 31 0 = μ 32 0 := h.2.2.2.2.2.2.2.2.2.2.2.2.2.2.2.2.2.2.2.2.2.2.2.2.2.2.1
theorem RC.f2 {n c : Nat} {μ : MS} {σ : XS} (h : RC n c μ σ) : σ.1 32 0 = μ 32 0 := h.2.2.2.2.2.2.2.2.2.2.2.2.2.2.2.2.2.2.2.2.2.2.2.2.2.2.2.1
theorem RC.f3 {n c : Nat} {μ : MS} {σ : XS} (h : RC n c μ σ) : σ.1 33 0 = μ 32 0 := h.2.2.2.2.2.2.2.2.2.2.2.2.2.2.2.2.2.2.2.2.2.2.2.2.2.2.2.2.1
theorem RC.fr {n c : Nat} {μ : MS} {σ : XS} (h : RC n c μ σ) : ∀ i, i < 8 → σ.1 41 (lo4 (μ 32 0 - 1 - nI i)) = μ 15 (3 * lo3 (μ 32 0 - 1 - nI i)) ∧ σ.1 42 (lo4 (μ 32 0 - 1 - nI i)) = μ 15 (3 * lo3 (μ 32 0 - 1 - nI i) + 1) ∧ σ.1 43 (lo4 (μ 32 0 - 1 - nI i)) = μ 15 (3 * lo3 (μ 32 0 - 1 - nI i) + 2) := h.2.2.2.2.2.2.2.2.2.2.2.2.2.2.2.2.2.2.2.2.2.2.2.2.2.2.2.2.2.1
theorem RC.od {n c : Nat} {μ : MS} {σ : XS} (h : RC n c μ σ) : OD n (μ 11) σ.2 := h.2.2.2.2.2.2.2.2.2.2.2.2.2.2.2.2.2.2.2.2.2.2.2.2.2.2.2.2.2.2
theorem RC.tell {n c : Nat} {μ : MS} {σ : XS} (h : RC n c μ σ) (x : Int32) : RC n c (m_tell μ x) (hnote σ 0 x) := ⟨h.p1, h.p2, h.p3, h.p4, h.p5, h.bt, h.hn, h.n1, h.n2, h.c1, h.c2, h.ck, h.pr, h.pp, h.px, h.pm, h.e3, h.e4, h.e5, h.e6, h.e7, h.e8, h.er, h.fl, by simp only [hnote, m_tell, xs, upd2_at, h.v1]; simp, by simp only [hnote, m_tell, xs]; rw [upd2_f (by omega), upd2_u, h.v2, upd2_f (by omega), upd2_u, h.v1], h.f1, h.f2, h.f3, h.fr, h.od⟩
theorem and1 (x : Int32) : x &&& 1 = 0 ∨ x &&& 1 = 1 := by
  have h : x &&& 1 = nI (x.toBitVec.toNat % 2) := pk_and x 1 (by decide)
  rw [h]
  rcases Nat.mod_two_eq_zero_or_one x.toBitVec.toNat with e | e <;> rw [e]
  · exact Or.inl rfl
  · exact Or.inr rfl
theorem bitb_iff {v k : Int32} : bitb v k = true ↔ ¬ (v >>> (k &&& 31)) &&& 1 = 0 := by
  rw [bitb, decide_eq_true_iff]
  rcases and1 (v >>> (k &&& 31)) with e | e
  · rw [e]; exact ⟨fun q => absurd q (by decide), fun q => absurd rfl q⟩
  · rw [e]; exact ⟨fun _ => by decide, fun _ => rfl⟩
theorem i_lt {a b : Int32} : a < b ↔ ¬ b ≤ a := by rw [Int32.lt_iff_toInt_lt, Int32.le_iff_toInt_le]; omega
theorem i_s1 {x : Int32} {k : Nat} (h : k + 1 < 2 ^ 31) : nI (k + 1) ≤ x ↔ nI k < x := by
  rw [Int32.lt_iff_toInt_lt, Int32.le_iff_toInt_le, nI_toInt h, nI_toInt (by omega)]; omega
theorem in8_R (x : Int32) : in8 x = inR x 0 7 := by
  simp only [in8, inR]
  rw [decide_eq_decide, show (8 : Int32) ≤ x ↔ (7 : Int32) < x from i_s1 (k := 7) (by omega)]
theorem in3_R (x : Int32) : in3 x = inR x 0 2 := by
  simp only [in3, inR]
  rw [decide_eq_decide, show (3 : Int32) ≤ x ↔ (2 : Int32) < x from i_s1 (k := 2) (by omega)]
theorem RC.there {n c : Nat} {μ : MS} {σ : XS} (h : RC n c μ σ) (x : Int32) : thereX σ x = !goneM μ x := by
  simp only [thereX, goneM, in8_R, h.p1]
  by_cases q : μ 1 (pn x) = 0 <;> simp [q]
theorem RC.shut {n c : Nat} {μ : MS} {σ : XS} (h : RC n c μ σ) {e : Nat} (he : e < 16) : shutX σ e = true ↔ (e < n ∧ ¬ μ 7 e < 0) ∧ ¬ μ 14 e = 0 := by
  obtain ⟨k, h1, h2, h3⟩ := h.fl e he
  simp only [shutX, decide_eq_true_iff]
  rw [h.pr e he, h.e7, h2, show (3 : Int32) ≤ nI k ↔ 3 ≤ k from nI_le' (a := 3) (by omega) (by omega), h3]
  constructor
  · rintro ⟨q1, q2⟩; exact ⟨q1, by omega⟩
  · rintro ⟨q1, q2⟩; exact ⟨q1, by omega⟩
theorem RC.live {n c : Nat} {μ : MS} {σ : XS} (h : RC n c μ σ) {e : Nat} (he : e < 16) : liveX σ e = true ↔ e < n ∧ liveM μ e = true := by
  have hs := h.shut he
  have hp := h.pr e he
  have hq := h.pp e he
  simp only [liveX, liveM, Bool.and_eq_true, decide_eq_true_iff, Bool.not_eq_true']
  rw [← Bool.not_eq_true, hs, h.p1]
  constructor
  · rintro ⟨⟨q1, q2⟩, q3⟩
    have q4 := hp.mp q1
    rw [hq q1] at q3
    refine ⟨q4.1, ⟨q4.2, q3⟩, ?_⟩
    exact Classical.byContradiction fun z => q2 ⟨q4, z⟩
  · rintro ⟨q1, ⟨q2, q3⟩, q4⟩
    have q5 := hp.mpr ⟨q1, q2⟩
    exact ⟨⟨q5, fun z => z.2 q4⟩, by rw [hq q5]; exact q3⟩
theorem RC.ext {n c : Nat} {μ : MS} {σ : XS} (h : RC n c μ σ) (x : Int32) : isExtX σ x = !noExtM μ x := by
  have key : ∀ j : Nat, j < 16 → (isExtX σ (nI j) = !noExtM μ (nI j)) := by
    intro j hj
    have hp := h.pr j hj
    have hn := h.hn
    have e16 : in16 (nI j) = true := decide_eq_true ⟨nI_pos (by omega), by rw [show (16 : Int32) = nI 16 from rfl, nI_le' (by omega) (by omega)]; omega⟩
    have e0 : inR (nI j) 0 (nI n - 1) = decide (j < n) := by
      rcases Nat.eq_zero_or_pos n with e | e
      · subst e
        rw [show decide (j < 0) = false by simp]
        simp only [inR, decide_eq_false_iff_not]
        intro q
        have q2 := q.2
        rw [Int32.lt_iff_toInt_lt, nI_toInt (by omega), show (nI 0 - 1 : Int32).toInt = -1 from by decide] at q2
        omega
      · rw [show nI n - 1 = nI (n - 1) from pk_sub (a := n) (b := 1) (by omega)]
        simp only [inR]
        rw [decide_eq_decide, nI_lt' (by omega) (by omega)]
        exact ⟨fun q => by omega, fun q => ⟨nI_pos (by omega), by omega⟩⟩
    simp only [isExtX, noExtM, e16, h.n1, e0, pn_nI (show j < 2 ^ 31 by omega), Bool.true_and]
    by_cases q1 : j < n
    · by_cases q2 : μ 7 j < 0
      · have : ¬ ¬ σ.1 11 j = 0 := fun z => (hp.mp z).2 q2
        have q3 : ¬ 0 ≤ μ 7 j := i_lt.mp q2
        simp [q1, q3, Classical.not_not.mp this]
      · have := hp.mpr ⟨q1, q2⟩
        have q3 : 0 ≤ μ 7 j := Classical.byContradiction fun z => q2 (i_lt.mpr z)
        simp [q1, q3, this]
    · have : ¬ ¬ σ.1 11 j = 0 := fun z => q1 (hp.mp z).1
      simp [q1, Classical.not_not.mp this]
  rcases kx_in x 16 (by omega) with ⟨j, hj, rfl⟩ | hx
  · exact key j hj
  · have e1 : isExtX σ x = false := by
      cases e : isExtX σ x with
      | false => rfl
      | true =>
        exfalso
        simp only [isExtX, Bool.and_eq_true] at e
        have := of_decide_eq_true e.1
        rcases hx with q | q
        · exact this.1 q
        · exact this.2 q
    have e2 : noExtM μ x = true := by
      cases e : noExtM μ x with
      | true => rfl
      | false =>
        exfalso
        obtain ⟨j, hj, rfl⟩ := noExtM_of h.hn h.n1 (x := x) (by rw [e]; decide)
        have hn := h.hn
        rcases hx with q | q
        · exact nI_pos (by omega) q
        · have := (nI_le' (by omega) (by omega)).mp q
          omega
    rw [e1, e2]; rfl
/-! the methods that change one row -/
theorem RC.set1 {n c : Nat} {μ : MS} {σ : XS} (h : RC n c μ σ) (i : Nat) {v : Int32} (hv : ¬ v = 2) : RC n c (upd2 μ 1 i v) (xs σ 1 i v) := by
  refine ⟨by rw [xs_u, upd2_u, h.p1], h.p2, h.p3, h.p4, h.p5, h.bt, h.hn, h.n1, h.n2, h.c1, h.c2, ?_, h.pr, h.pp, h.px, h.pm, h.e3, h.e4, h.e5, h.e6, h.e7, h.e8, h.er, h.fl, h.v1, h.v2, h.f1, h.f2, h.f3, h.fr, h.od⟩
  intro k hk hk1
  rw [upd2_u, upd_at] at hk1
  split at hk1
  · exact absurd hk1 hv
  · exact h.ck k hk hk1
theorem RC.set4 {n c : Nat} {μ : MS} {σ : XS} (h : RC n c μ σ) (i : Nat) (v : Int32) : RC n c (upd2 μ 4 i v) (xs σ 4 i v) := ⟨h.p1, h.p2, h.p3, by rw [xs_u, upd2_u, h.p4], h.p5, h.bt, h.hn, h.n1, h.n2, h.c1, h.c2, h.ck, h.pr, h.pp, h.px, h.pm, h.e3, h.e4, h.e5, h.e6, h.e7, h.e8, h.er, h.fl, h.v1, h.v2, h.f1, h.f2, h.f3, h.fr, h.od⟩
theorem RC.set5 {n c : Nat} {μ : MS} {σ : XS} (h : RC n c μ σ) (i : Nat) (v : Int32) : RC n c (upd2 μ 5 i v) (xs σ 5 i v) := ⟨h.p1, h.p2, h.p3, h.p4, by rw [xs_u, upd2_u, h.p5], h.bt, h.hn, h.n1, h.n2, h.c1, h.c2, h.ck, h.pr, h.pp, h.px, h.pm, h.e3, h.e4, h.e5, h.e6, h.e7, h.e8, h.er, h.fl, h.v1, h.v2, h.f1, h.f2, h.f3, h.fr, h.od⟩
theorem RC.set78 {n c : Nat} {μ : MS} {σ : XS} (h : RC n c μ σ) {f : Nat} (hf : f = 7 ∨ f = 8) (i : Nat) (v : Int32) : RC n c μ (xs σ f i v) := by
  rcases hf with rfl | rfl
  · exact ⟨h.p1, h.p2, h.p3, h.p4, h.p5, h.bt, h.hn, h.n1, h.n2, h.c1, h.c2, h.ck, h.pr, h.pp, h.px, h.pm, h.e3, h.e4, h.e5, h.e6, h.e7, h.e8, h.er, h.fl, h.v1, h.v2, h.f1, h.f2, h.f3, h.fr, h.od⟩
  · exact ⟨h.p1, h.p2, h.p3, h.p4, h.p5, h.bt, h.hn, h.n1, h.n2, h.c1, h.c2, h.ck, h.pr, h.pp, h.px, h.pm, h.e3, h.e4, h.e5, h.e6, h.e7, h.e8, h.er, h.fl, h.v1, h.v2, h.f1, h.f2, h.f3, h.fr, h.od⟩
theorem RC.set19 {n c : Nat} {μ : MS} {σ : XS} (h : RC n c μ σ) (i : Nat) (v : Int32) : RC n c (upd2 μ 19 i v) σ := ⟨h.p1, h.p2, h.p3, h.p4, h.p5, h.bt, h.hn, h.n1, h.n2, h.c1, h.c2, h.ck, h.pr, h.pp, h.px, h.pm, h.e3, h.e4, h.e5, h.e6, h.e7, h.e8, h.er, h.fl, h.v1, h.v2, h.f1, h.f2, h.f3, h.fr, h.od⟩
theorem RC.scr {n c : Nat} {μ : MS} {σ : XS} (h : RC n c μ σ) {f : Nat} (hf : f = 17 ∨ f = 18 ∨ f = 20 ∨ f = 21 ∨ f = 22 ∨ f = 23 ∨ f = 34 ∨ f = 35) (i : Nat) (v : Int32) : RC n c (upd2 μ f i v) σ := by
  rcases hf with rfl | rfl | rfl | rfl | rfl | rfl | rfl | rfl
  · exact ⟨h.p1, h.p2, h.p3, h.p4, h.p5, h.bt, h.hn, h.n1, h.n2, h.c1, h.c2, h.ck, h.pr, h.pp, h.px, h.pm, h.e3, h.e4, h.e5, h.e6, h.e7, h.e8, h.er, h.fl, h.v1, h.v2, h.f1, h.f2, h.f3, h.fr, h.od⟩
  · exact ⟨h.p1, h.p2, h.p3, h.p4, h.p5, h.bt, h.hn, h.n1, h.n2, h.c1, h.c2, h.ck, h.pr, h.pp, h.px, h.pm, h.e3, h.e4, h.e5, h.e6, h.e7, h.e8, h.er, h.fl, h.v1, h.v2, h.f1, h.f2, h.f3, h.fr, h.od⟩
  · exact ⟨h.p1, h.p2, h.p3, h.p4, h.p5, h.bt, h.hn, h.n1, h.n2, h.c1, h.c2, h.ck, h.pr, h.pp, h.px, h.pm, h.e3, h.e4, h.e5, h.e6, h.e7, h.e8, h.er, h.fl, h.v1, h.v2, h.f1, h.f2, h.f3, h.fr, h.od⟩
  · exact ⟨h.p1, h.p2, h.p3, h.p4, h.p5, h.bt, h.hn, h.n1, h.n2, h.c1, h.c2, h.ck, h.pr, h.pp, h.px, h.pm, h.e3, h.e4, h.e5, h.e6, h.e7, h.e8, h.er, h.fl, h.v1, h.v2, h.f1, h.f2, h.f3, h.fr, h.od⟩
  · exact ⟨h.p1, h.p2, h.p3, h.p4, h.p5, h.bt, h.hn, h.n1, h.n2, h.c1, h.c2, h.ck, h.pr, h.pp, h.px, h.pm, h.e3, h.e4, h.e5, h.e6, h.e7, h.e8, h.er, h.fl, h.v1, h.v2, h.f1, h.f2, h.f3, h.fr, h.od⟩
  · exact ⟨h.p1, h.p2, h.p3, h.p4, h.p5, h.bt, h.hn, h.n1, h.n2, h.c1, h.c2, h.ck, h.pr, h.pp, h.px, h.pm, h.e3, h.e4, h.e5, h.e6, h.e7, h.e8, h.er, h.fl, h.v1, h.v2, h.f1, h.f2, h.f3, h.fr, h.od⟩
  · exact ⟨h.p1, h.p2, h.p3, h.p4, h.p5, h.bt, h.hn, h.n1, h.n2, h.c1, h.c2, h.ck, h.pr, h.pp, h.px, h.pm, h.e3, h.e4, h.e5, h.e6, h.e7, h.e8, h.er, h.fl, h.v1, h.v2, h.f1, h.f2, h.f3, h.fr, h.od⟩
  · exact ⟨h.p1, h.p2, h.p3, h.p4, h.p5, h.bt, h.hn, h.n1, h.n2, h.c1, h.c2, h.ck, h.pr, h.pp, h.px, h.pm, h.e3, h.e4, h.e5, h.e6, h.e7, h.e8, h.er, h.fl, h.v1, h.v2, h.f1, h.f2, h.f3, h.fr, h.od⟩
theorem RC.install {n c : Nat} {μ : MS} {σ : XS} (h : RC n c μ σ) (x : Int32) : (x_install σ x).1 = (m_install μ x).1 ∧ RC n c (m_install μ x).2 (x_install σ x).2 := by
  simp only [x_install, m_install, in8_R, h.p1]
  split
  · exact ⟨rfl, h.set1 _ (by decide)⟩
  · exact ⟨rfl, h⟩
theorem RC.serve {n c : Nat} {μ : MS} {σ : XS} (h : RC n c μ σ) (x1 x2 x3 : Int32) : (x_serve σ x1 x2 x3).1 = (m_serve μ x1 x2 x3).1 ∧ RC n c (m_serve μ x1 x2 x3).2 (x_serve σ x1 x2 x3).2 := by
  have e2 : (¬ x2 < 0 ∧ x2 ≤ 2) ↔ inR x2 0 2 = true := by
    rw [inR, decide_eq_true_iff, i_lt (a := 2), Classical.not_not]
  have e3 : (¬ x3 < 0 ∧ x3 ≤ 9) ↔ inR x3 0 9 = true := by
    rw [inR, decide_eq_true_iff, i_lt (a := 9), Classical.not_not]
  simp only [x_serve, m_serve, h.there, Bool.not_eq_true', ← Bool.not_eq_true, ← e2, ← e3, and_assoc]
  split
  · exact ⟨rfl, (h.set4 _ _).set5 _ _⟩
  · exact ⟨rfl, h⟩
theorem RC.state {n c : Nat} {μ : MS} {σ : XS} (h : RC n c μ σ) (x : Int32) : x_state σ x = m_state μ x := by
  simp only [x_state, m_state, in8_R, h.p1]
theorem RC.forgive {n c : Nat} {μ : MS} {σ : XS} (h : RC n c μ σ) (x : Int32) : (x_forgive σ x).1 = (m_forgive μ x).1 ∧ RC n c (m_forgive μ x).2 (x_forgive σ x).2 := by
  have e : (isExtX σ x = true ∧ shutX σ (pn x) = true) ↔ (¬ noExtM μ x = true ∧ ¬ μ 14 (pn x) = 0) := by
    rw [h.ext, Bool.not_eq_true', ← Bool.not_eq_true]
    constructor
    · rintro ⟨q1, q2⟩
      obtain ⟨j, hj, rfl⟩ := noExtM_of h.hn h.n1 q1
      have := h.hn
      rw [pn_nI (by omega)] at q2 ⊢
      exact ⟨q1, ((h.shut (by omega)).mp q2).2⟩
    · rintro ⟨q1, q2⟩
      have q3 : isExtX σ x = true := by rw [h.ext, Bool.not_eq_true', ← Bool.not_eq_true]; exact q1
      obtain ⟨j, hj, rfl⟩ := noExtM_of h.hn h.n1 q1
      have := h.hn
      rw [pn_nI (by omega)] at q2 ⊢
      simp only [isExtX, pn_nI (show j < 2 ^ 31 by omega), Bool.and_eq_true, decide_eq_true_iff] at q3
      exact ⟨q1, (h.shut (by omega)).mpr ⟨(h.pr j (by omega)).mp q3.2, q2⟩⟩
  simp only [x_forgive, m_forgive, e]
  split
  · refine ⟨rfl, ⟨h.p1, h.p2, h.p3, h.p4, h.p5, h.bt, h.hn, h.n1, h.n2, h.c1, h.c2, h.ck, h.pr, h.pp, h.px, h.pm, h.e3, h.e4, h.e5, h.e6, by dsimp only; rw [xs_u, upd2_u, upd2_f (by omega), h.e7], h.e8, h.er, ?_, h.v1, h.v2, h.f1, h.f2, h.f3, h.fr, h.od⟩⟩
    intro k hk
    dsimp only
    rw [upd2_u, upd2_f (show (14 : Nat) ≠ 12 by omega), upd2_u, upd2_f (show (12 : Nat) ≠ 14 by omega)]
    simp only [upd_at]
    by_cases q : k = pn x
    · simp only [q, if_true]
      exact ⟨0, by omega, rfl, by simp⟩
    · simp only [q, if_false]
      exact h.fl k hk
  · exact ⟨rfl, h⟩
theorem RC.stand {n c : Nat} {μ : MS} {σ : XS} (h : RC n c μ σ) {e : Nat} (he : e < 16) (hp : e < n ∧ ¬ μ 7 e < 0) : standX σ e = if μ 14 e = 0 then (if liveM μ e = true then 1 else 0) else 2 := by
  have h1 := h.shut he
  have h2 := h.live he
  simp only [standX]
  by_cases q : μ 14 e = 0
  · rw [if_neg (fun z => (h1.mp z).2 q), if_pos q]
    by_cases q2 : liveM μ e = true
    · rw [if_pos (h2.mpr ⟨hp.1, q2⟩), if_pos q2]
    · rw [if_neg (fun z => q2 (h2.mp z).2), if_neg q2]
  · rw [if_pos (h1.mpr ⟨hp, q⟩), if_neg q]
theorem RC.extension {n c : Nat} {μ : MS} {σ : XS} (h : RC n c μ σ) (x w : Int32) : x_extension σ x w = m_extension μ x w := by
  simp only [x_extension, m_extension]
  by_cases q : noExtM μ x = true
  · rw [if_neg (by rw [h.ext, q]; decide), if_neg (fun z => z q)]
  · have q3 : isExtX σ x = true := by rw [h.ext, Bool.not_eq_true', ← Bool.not_eq_true]; exact q
    rw [if_pos q3, if_pos q]
    obtain ⟨j, hj, rfl⟩ := noExtM_of h.hn h.n1 q
    have := h.hn
    simp only [isExtX, pn_nI (show j < 2 ^ 31 by omega), Bool.and_eq_true, decide_eq_true_iff] at q3
    simp only [pn_nI (show j < 2 ^ 31 by omega)]
    rw [h.pp j (by omega) q3.2, h.e3, h.e4, h.e7, h.e8, h.stand (by omega) ((h.pr j (by omega)).mp q3.2)]
theorem RC.ordinal {n c : Nat} {μ : MS} {σ : XS} (h : RC n c μ σ) (x : Int32) : x_ordinal σ x = m_ordinal μ x := by
  simp only [x_ordinal, m_ordinal, h.ext, h.e6]
  by_cases q : noExtM μ x = true
  · simp [q]
  · simp [q]
theorem hlast_v {σ : XS} {hh m : Nat} (hm : wX_kept hh = m + 1) (hm2 : m < 100) {N k : Int32} (hN : σ.1 (30 + hh) 0 = N) : hlast σ hh k = if inR k 0 (nI m) = true ∧ ¬ N ≤ k then σ.1 (40 + hh) (lo4 (N - 1 - k)) else -1 := by
  simp only [hlast, hm, hN]
  have d1 : nI (m + 1) ≤ k ↔ nI m < k := i_s1 (by omega)
  have d2 : ¬ k < N ↔ N ≤ k := by rw [i_lt, Classical.not_not]
  simp only [d1, d2]
  by_cases q : inR k 0 (nI m) = true ∧ ¬ N ≤ k
  · rw [if_pos q, if_neg]
    have q1 := of_decide_eq_true q.1
    rintro (z | z | z)
    · exact q1.1 z
    · exact q1.2 z
    · exact q.2 z
  · rw [if_neg q, if_pos]
    refine Classical.byContradiction fun z => q ⟨decide_eq_true ⟨fun y => z (Or.inl y), fun y => z (Or.inr (Or.inl y))⟩, fun y => z (Or.inr (Or.inr y))⟩
theorem RC.event {n c : Nat} {μ : MS} {σ : XS} (h : RC n c μ σ) (k : Int32) : hlast σ 0 k = m_event μ k := by
  rw [hlast_v (m := 15) rfl (by omega) h.v1]
  simp only [m_event, h.v2]
  rfl
theorem RC.fault {n c : Nat} {μ : MS} {σ : XS} (h : RC n c μ σ) (k w : Int32) : x_fault σ k w = m_fault μ k w := by
  simp only [x_fault, m_fault]
  rw [hlast_v (hh := 1) (m := 7) rfl (by omega) h.f1, hlast_v (hh := 2) (m := 7) rfl (by omega) h.f2, hlast_v (hh := 3) (m := 7) rfl (by omega) h.f3]
  by_cases q : inR k 0 7 = true
  · obtain ⟨i, hi, rfl⟩ := inR07_of q
    obtain ⟨g1, g2, g3⟩ := h.fr i hi
    simp only [show nI 7 = (7 : Int32) from rfl, q, true_and]
    by_cases w0 : w = 0
    · subst w0; rw [if_pos rfl, g1]; simp only [show inR 0 0 2 = true from by decide, and_true]; rfl
    · by_cases w1 : w = 1
      · subst w1; rw [if_neg (by decide), if_pos rfl, g2]; simp only [show inR 1 0 2 = true from by decide, and_true]; rfl
      · by_cases w2 : w = 2
        · subst w2; rw [if_neg (by decide), if_neg (by decide), if_pos rfl, g3]; simp only [show inR 2 0 2 = true from by decide, and_true]; rfl
        · rw [if_neg w0, if_neg w1, if_neg w2, if_neg]
          rintro ⟨-, z⟩
          obtain ⟨j, hj, rfl⟩ := inR02_of z
          rcases (show j = 0 ∨ j = 1 ∨ j = 2 by omega) with rfl | rfl | rfl
          · exact w0 rfl
          · exact w1 rfl
          · exact w2 rfl
  · simp [show nI 7 = (7 : Int32) from rfl, q]
theorem cnt_same {μ : MS} {σ : XS} (h : σ.1 1 = μ 1) (k : Nat) : cntX σ k = m_cnt μ k := by
  induction k with
  | zero => rfl
  | succ k ih => simp only [cntX, m_cnt, ih, h]
theorem RC.cShut {n c : Nat} {μ : MS} {σ : XS} (h : RC n c μ σ) : ∀ k, k ≤ 16 → cntS σ k = m_shutN μ (min k n) := by
  intro k
  induction k with
  | zero => intro _; rw [Nat.zero_min]; rfl
  | succ k ih =>
    intro hk
    have hs := h.shut (e := k) (by omega)
    simp only [cntS, ih (by omega)]
    by_cases q : k < n
    · rw [show min (k + 1) n = k + 1 by omega, show min k n = k by omega]
      simp only [m_shutN]
      by_cases q2 : ¬ μ 7 k < 0 ∧ ¬ μ 14 k = 0
      · rw [if_pos (hs.mpr ⟨⟨q, q2.1⟩, q2.2⟩), if_pos q2]
      · rw [if_neg (fun z => q2 ⟨(hs.mp z).1.2, (hs.mp z).2⟩), if_neg q2]
    · rw [show min (k + 1) n = n by omega, show min k n = n by omega]
      rw [if_neg (fun z => q (hs.mp z).1.1)]
theorem RC.count {n c : Nat} {μ : MS} {σ : XS} (h : RC n c μ σ) (w : Int32) : x_count σ w = m_count μ w := by
  have hn := h.hn
  simp only [x_count, m_count, cnt_same h.p1, h.n1, h.n2, h.f2, h.v1, h.cShut 16 (by omega), pn_nI (show n < 2 ^ 31 by omega), show min 16 n = n by omega]
