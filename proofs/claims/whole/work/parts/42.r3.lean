/-! extend: the order takes one more in -/
theorem x_putL_1 {i p : Nat} : ∀ {σ : XS}, (x_putL σ i p).1 = σ.1 := by
  induction p with
  | zero => intro σ; rfl
  | succ p ih =>
    intro σ
    simp only [x_putL]
    split
    · rw [ih]
    · rfl
theorem x_putL_sum {g : Nat → Nat → Int32} {i : Nat} {w : Nat → Int} : ∀ (p : Nat) (s : Nat → Nat), p < 16 → sN (fun k => w ((x_putL (g, s) i p).2 k)) 16 = sN (fun k => w (s k)) 16 - w (s p) + w i := by
  intro p
  induction p with
  | zero => intro s hp; exact sN_upd 16 hp
  | succ p ih =>
    intro s hp
    simp only [x_putL]
    split
    · rw [ih _ (by omega), sN_upd (v := s p) 16 hp]
      simp only [if_neg (show ¬ p = p + 1 by omega)]
      omega
    · exact sN_upd 16 hp
theorem x_putL_hi {g : Nat → Nat → Int32} {i : Nat} : ∀ (p : Nat) (s : Nat → Nat) (k : Nat), p < k → (x_putL (g, s) i p).2 k = s k := by
  intro p
  induction p with
  | zero => intro s k hk; exact if_neg (by omega)
  | succ p ih =>
    intro s k hk
    simp only [x_putL]
    split
    · rw [ih _ _ (by omega), if_neg (by omega)]
    · exact if_neg (by omega)
theorem x_putL_val {g : Nat → Nat → Int32} {i : Nat} {P : Nat → Prop} (hi : P i) : ∀ (p : Nat) (s : Nat → Nat), (∀ k, k < p → P (s k)) → ∀ k, k ≤ p → P ((x_putL (g, s) i p).2 k) := by
  intro p
  induction p with
  | zero =>
    intro s h k hk
    obtain rfl : k = 0 := by omega
    exact hi
  | succ p ih =>
    intro s h k hk
    simp only [x_putL]
    split
    · by_cases q : k = p + 1
      · subst q
        rw [x_putL_hi p _ _ (by omega), if_pos rfl]
        exact h p (by omega)
      · exact ih _ (fun k' hk' => by rw [if_neg (by omega)]; exact h k' (by omega)) k (by omega)
    · dsimp only
      split
      · exact hi
      · exact h k (by omega)
theorem lex_t {key : Nat → Int32} {a b c : Nat} (h1 : lex key a b) (h2 : lex key b c) : lex key a c := by
  simp only [lex, Int32.lt_iff_toInt_lt, ← Int32.toInt_inj] at *
  omega
theorem x_putL_so {g : Nat → Nat → Int32} {n : Nat} : ∀ (p : Nat) (s : Nat → Nat), p ≤ n → (∀ a b, a < b → b ≤ n → a ≠ p → b ≠ p → lex (g 16) (s a) (s b)) → (∀ b, p < b → b ≤ n → lex (g 16) n (s b)) → (∀ a, a < p → s a < n) →
    ∀ a b, a < b → b ≤ n → lex (g 16) ((x_putL (g, s) n p).2 a) ((x_putL (g, s) n p).2 b) := by
  intro p
  induction p with
  | zero =>
    intro s hp h1 h2 h3 a b hab hb
    simp only [x_putL]
    rw [if_neg (show ¬ b = 0 by omega)]
    by_cases q : a = 0
    · rw [if_pos q]; exact h2 b (by omega) hb
    · rw [if_neg q]; exact h1 a b hab hb q (by omega)
  | succ p ih =>
    intro s hp h1 h2 h3 a b hab hb
    simp only [x_putL]
    split
    · rename_i hk
      refine ih _ (by omega) (fun a b hab hb ha hbp => ?_) (fun b hpb hb => ?_) (fun a ha => ?_) a b hab hb
      · by_cases q1 : a = p + 1
        · rw [if_pos q1, if_neg (show ¬ b = p + 1 by omega)]
          exact h1 p b (by omega) hb (by omega) (by omega)
        · by_cases q2 : b = p + 1
          · rw [if_neg q1, if_pos q2]
            exact h1 a p (by omega) (by omega) (by omega) (by omega)
          · rw [if_neg q1, if_neg q2]
            exact h1 a b hab hb q1 q2
      · by_cases q2 : b = p + 1
        · rw [if_pos q2]; exact Or.inl hk
        · rw [if_neg q2]; exact h2 b (by omega) hb
      · rw [if_neg (show ¬ a = p + 1 by omega)]; exact h3 a (by omega)
    · rename_i hk
      have hl : lex (g 16) (s p) n := by
        have := h3 p (by omega)
        simp only [lex, Int32.lt_iff_toInt_lt, ← Int32.toInt_inj] at *
        omega
      dsimp only
      by_cases q1 : a = p + 1
      · rw [if_pos q1, if_neg (show ¬ b = p + 1 by omega)]
        exact h2 b (by omega) hb
      · by_cases q2 : b = p + 1
        · rw [if_neg q1, if_pos q2]
          by_cases q3 : a = p
          · rw [q3]; exact hl
          · exact lex_t (h1 a p (by omega) (by omega) q1 (by omega)) hl
        · rw [if_neg q1, if_neg q2]
          exact h1 a b hab hb q1 q2
theorem OD.put {n : Nat} {key : Nat → Int32} {σ : XS} (h : OD n key σ.2) (hn : n < 16) (hk : ∀ e, e < n → σ.1 16 e = key e) : OD (n + 1) (σ.1 16) (x_put σ n).2 := by
  obtain ⟨g, s⟩ := σ
  dsimp only at h hk ⊢
  have hs : s n = n := h.tl n (by omega) hn
  refine ⟨fun w => ?_, fun k h1 h2 => ?_, fun k hk9 => ?_, fun k hk9 => ?_, fun a b hab hb => ?_⟩
  · have := x_putL_sum (g := g) (i := n) (w := w) n s hn
    have h9 := h.sm w
    rw [hs] at this
    rw [x_put, this, h9]
    omega
  · rw [x_put, x_putL_hi n s k (by omega)]
    exact h.tl k (by omega) h2
  · rw [x_put]
    by_cases q : k ≤ n
    · exact x_putL_val (P := fun v => v < 16) hn n s (fun k hk => h.lt k (by omega)) k q
    · rw [x_putL_hi n s k (by omega)]
      exact h.lt k hk9
  · exact x_putL_val (P := fun v => v < n + 1) (Nat.lt_succ_self n) n s (fun k hk => Nat.lt_succ_of_lt (h.lo k hk)) k (by omega)
  · refine x_putL_so n s (Nat.le_refl n) (fun a b hab hb ha hb9 => ?_) (fun b h1 h2 => by omega) (fun a ha => h.lo a ha) a b hab (by omega)
    have := h.so a b hab (by omega)
    simp only [lex] at this ⊢
    rw [hk _ (h.lo a (by omega)), hk _ (h.lo b (by omega))]
    exact this
theorem RC.extend {n c : Nat} {μ : MS} {σ : XS} (h : RC n c μ σ) (x1 x2 x3 x4 x5 : Int32) : (x_extend σ x1 x2 x3 x4 x5).1 = (m_extend μ x1 x2 x3 x4 x5).1 ∧ ∃ n', RC n' c (m_extend μ x1 x2 x3 x4 x5).2 (x_extend σ x1 x2 x3 x4 x5).2 := by
  have hn := h.hn
  have e3 : (¬ x3 < 0 ∧ x3 ≤ 8) ↔ inR x3 0 8 = true := by
    rw [inR, decide_eq_true_iff, i_lt (a := 8), Classical.not_not]
  simp only [x_extend, m_extend, h.there, Bool.not_eq_true', ← Bool.not_eq_true, e3, in3_R, h.n1, h.n2, pn_nI (show n < 2 ^ 31 by omega)]
  by_cases q : ¬ goneM μ x1 = true ∧ inR x2 0 2 = true ∧ inR x3 0 8 = true
  · rw [if_pos q, if_pos q]
    by_cases q2 : n < 16
    · rw [if_pos q2, if_neg (show ¬ n = 16 by omega)]
      refine ⟨rfl, n + 1, ?_⟩
      obtain ⟨i, hi, rfl⟩ := goneM_of q.1
      have r2 := inR02_of q.2.1
      have r3 := inR_of (m := 8) (by omega) q.2.2
      have e27 : (x_put (x_ext6 σ n (nI i) x2 x3 x4 x5) n).1 27 0 + 1 = nI (n + 1) := by
        rw [x_put, x_putL_1]
        simp only [x_ext6, xs]
        rw [upd2_f (by omega), upd2_f (by omega), upd2_f (by omega), upd2_f (by omega), upd2_f (by omega), upd2_f (by omega), h.n2, nI_1]
      dsimp only
      rw [e27]
      have hod : OD (n + 1) ((x_ext6 σ n (nI i) x2 x3 x4 x5).1 16) (x_put (x_ext6 σ n (nI i) x2 x3 x4 x5) n).2 := by
        refine OD.put (key := μ 11) h.od q2 (fun e he => ?_)
        simp only [x_ext6]
        rw [xs_u, upd_at, if_neg (by omega), xs_f (by omega), xs_f (by omega), xs_f (by omega), xs_f (by omega), xs_f (by omega), h.e6]
      have ep : x_put (x_ext6 σ n (nI i) x2 x3 x4 x5) n = ((x_ext6 σ n (nI i) x2 x3 x4 x5).1, (x_put (x_ext6 σ n (nI i) x2 x3 x4 x5) n).2) := Prod.ext x_putL_1 rfl
      generalize (x_put (x_ext6 σ n (nI i) x2 x3 x4 x5) n).2 = s' at ep hod
      rw [ep]
      simp only [x_ext6, xs, m_ext6] at hod ⊢
      refine ⟨h.p1, h.p2, h.p3, h.p4, h.p5, h.bt, q2, rfl, rfl, h.c1, h.c2, h.ck, ?_, ?_, ?_, ?_, ?_, ?_, ?_, ?_, h.e7, h.e8, ?_, h.fl, h.v1, h.v2, h.f1, h.f2, h.f3, h.fr, ?_⟩
      · intro e he
        by_cases z : e = n
        · subst z
          simp only [upd2_at]
          simp
          exact nI_0le (by omega)
        · have := h.pr e he
          simp only [upd2_at, z]
          simp only [and_false, if_false, Nat.reduceEqDiff, false_and]
          rw [this]
          exact ⟨fun y => ⟨by omega, y.2⟩, fun y => ⟨by omega, y.2⟩⟩
      · intro e he
        by_cases z : e = n
        · subst z
          simp [upd2_at]
        · have := h.pp e he
          simp only [upd2_at, z]
          simpa using this
      · intro e he
        by_cases z : e = n
        · subst z
          simp only [upd2_at]
          exact ⟨i, hi, by simp⟩
        · have := h.px e he
          simp only [upd2_at, z]
          simpa using this
      · intro e he
        by_cases z : e = n
        · subst z
          simp only [upd2_at]
          exact Or.inr ⟨i, hi, by simp⟩
        · have := h.pm e he
          simp only [upd2_at, z]
          simpa using this
      · funext e; simp only [upd2_at, ← h.e3]; simp
      · funext e; simp only [upd2_at, ← h.e4]; simp
      · funext e; simp only [upd2_at, ← h.e5]; simp
      · funext e; simp only [upd2_at, ← h.e6]; simp
      · intro e he
        by_cases z : e = n
        · subst z
          simp only [upd2_at]
          simpa using ⟨r2, r3⟩
        · have := h.er e (by omega)
          simp only [upd2_at, z]
          simpa using this
      · have e : upd2 (upd2 (upd2 (upd2 (upd2 (upd2 μ 7 n (nI i)) 8 n x2) 9 n x3) 10 n x4) 11 n x5) 31 0 (nI (n + 1)) 11 = upd2 (upd2 (upd2 (upd2 (upd2 (upd2 σ.1 11 n 1) 12 n (nI i)) 13 n x2) 14 n x3) 15 n x4) 16 n x5 16 := by
          funext e; simp only [upd2_at, ← h.e6]; simp
        rw [e]
        exact hod
    · rw [if_neg q2, if_pos (show n = 16 by omega)]
      exact ⟨rfl, n, h⟩
  · rw [if_neg q, if_neg q]
    exact ⟨rfl, n, h⟩
/-! weight and order -/
theorem RC.liveAt {n c : Nat} {μ : MS} {σ : XS} (h : RC n c μ σ) {e : Nat} (he : e < 16) {p : Int32} : liveAtX σ e p = true ↔ e < n ∧ liveM μ e = true ∧ μ 8 e = p := by
  simp only [liveAtX, Bool.and_eq_true, decide_eq_true_iff, h.live he, h.e3]
  constructor
  · rintro ⟨a, b, d⟩; exact ⟨b, d, a⟩
  · rintro ⟨a, b, d⟩; exact ⟨d, a, b⟩
theorem x_wS_N {σ : XS} {p : Int32} (m : Nat) : x_wS σ p m = sN (fun k => if liveAtX σ (σ.2 k) p = true then (σ.1 16 (σ.2 k)).toInt else 0) m := by
  induction m with
  | zero => rfl
  | succ m ih =>
    simp only [x_wS, sN, ih]
    split
    · rfl
    · omega
theorem m_wS_N {μ : MS} {p : Int32} (m : Nat) : m_wS μ p m = sN (fun e => if liveM μ e = true ∧ μ 8 e = p then (μ 11 e).toInt else 0) m := by
  induction m with
  | zero => rfl
  | succ m ih =>
    simp only [m_wS, sN, ih]
    split
    · rfl
    · omega
theorem RC.wS {n c : Nat} {μ : MS} {σ : XS} (h : RC n c μ σ) (p : Int32) : x_wS σ p 16 = m_wS μ p n := by
  have hn := h.hn
  rw [x_wS_N, m_wS_N, h.od.sm (fun e => if liveAtX σ e p = true then (σ.1 16 e).toInt else 0)]
  have e16 := sN_more n (16 - n) (w := fun e => if liveAtX σ e p = true then (σ.1 16 e).toInt else 0) (fun k h1 h2 => if_neg (fun z => by have := (h.liveAt (by omega)).mp z; omega))
  rw [show n + (16 - n) = 16 by omega] at e16
  rw [e16]
  refine sN_congr n (fun k hk => ?_)
  have e : (liveAtX σ k p = true) ↔ (liveM μ k = true ∧ μ 8 k = p) := by
    rw [h.liveAt (by omega)]
    exact ⟨fun z => z.2, fun z => ⟨hk, z⟩⟩
  simp only [e, h.e6]
/-- how many of the first i of the order are live at p -/
def cL (σ : XS) (p : Int32) : Nat → Nat
  | 0 => 0
  | i + 1 => if liveAtX σ (σ.2 i) p = true then cL σ p i + 1 else cL σ p i
theorem cL_le (σ : XS) (p : Int32) (i : Nat) : cL σ p i ≤ i := by
  induction i with
  | zero => exact Nat.le_refl _
  | succ i ih => simp only [cL]; split <;> omega
theorem cL_mono (σ : XS) (p : Int32) {i j : Nat} (h : i ≤ j) : cL σ p i ≤ cL σ p j := by
  induction j with
  | zero => rw [show i = 0 by omega]; exact Nat.le_refl _
  | succ j ih =>
    by_cases q : i = j + 1
    · rw [q]; exact Nat.le_refl _
    · have := ih (by omega)
      simp only [cL]; split <;> omega
theorem cL_lt (σ : XS) (p : Int32) {i j : Nat} (h : i < j) (hP : liveAtX σ (σ.2 i) p = true) : cL σ p i < cL σ p j := by
  have := cL_mono σ p (show i + 1 ≤ j by omega)
  simp only [cL, if_pos hP] at this
  omega
theorem cL_inj (σ : XS) (p : Int32) {i j : Nat} (hi : liveAtX σ (σ.2 i) p = true) (hj : liveAtX σ (σ.2 j) p = true) (h : cL σ p i = cL σ p j) : i = j := by
  rcases Nat.lt_trichotomy i j with q | q | q
  · have := cL_lt σ p q hi; omega
  · exact q
  · have := cL_lt σ p q hj; omega
theorem cL_N (σ : XS) (p : Int32) (j : Nat) : ∀ m, j ≤ m → sN (fun k => if k < j ∧ liveAtX σ (σ.2 k) p = true then (1 : Int) else 0) m = cL σ p j := by
  have h0 : ∀ m, m ≤ j → sN (fun k => if k < j ∧ liveAtX σ (σ.2 k) p = true then (1 : Int) else 0) m = cL σ p m := by
    intro m
    induction m with
    | zero => intro _; rfl
    | succ m ih =>
      intro hm
      simp only [sN, cL]
      rw [ih (by omega)]
      by_cases q : liveAtX σ (σ.2 m) p = true
      · rw [if_pos ⟨by omega, q⟩, if_pos q]; omega
      · rw [if_neg (fun z => q z.2), if_neg q]; omega
  intro m hm
  rw [show m = j + (m - j) by omega, sN_more j (m - j) (fun k h1 h2 => if_neg (fun z => by omega)), h0 j (Nat.le_refl j)]
theorem m_befN_N {μ : MS} {p : Int32} {e : Nat} (m : Nat) : (m_befN μ p e m : Int) = sN (fun f => if befM μ p e f = true then 1 else 0) m := by
  induction m with
  | zero => rfl
  | succ m ih =>
    simp only [m_befN, sN, ← ih]
    split <;> omega
theorem RC.pos {n c : Nat} {μ : MS} {σ : XS} (h : RC n c μ σ) {j : Nat} (hj : j < 16) {p : Int32} (hP : liveAtX σ (σ.2 j) p = true) : j < n := by
  have h1 := (h.liveAt (h.od.lt j hj)).mp hP
  refine Classical.byContradiction fun z => ?_
  have := h.od.tl j (by omega) hj
  omega
theorem RC.rank {n c : Nat} {μ : MS} {σ : XS} (h : RC n c μ σ) {j : Nat} (hj : j < 16) {p : Int32} (hP : liveAtX σ (σ.2 j) p = true) : m_befN μ p (σ.2 j) n = cL σ p j := by
  have hn := h.hn
  have hjn := h.pos hj hP
  have e1 : (m_befN μ p (σ.2 j) n : Int) = cL σ p j := by
    rw [m_befN_N, ← cL_N σ p j 16 (by omega)]
    rw [sN_congr (w' := fun f => if f < n ∧ befM μ p (σ.2 j) f = true then (1 : Int) else 0) n (fun k hk => by simp [hk])]
    rw [← sN_more n (16 - n) (w := fun f => if f < n ∧ befM μ p (σ.2 j) f = true then (1 : Int) else 0) (fun k h1 h2 => if_neg (fun z => by omega)), show n + (16 - n) = 16 by omega]
    rw [← h.od.sm (fun f => if f < n ∧ befM μ p (σ.2 j) f = true then (1 : Int) else 0)]
    refine sN_congr 16 (fun k hk => ?_)
    have e : (σ.2 k < n ∧ befM μ p (σ.2 j) (σ.2 k) = true) ↔ (k < j ∧ liveAtX σ (σ.2 k) p = true) := by
      rw [h.liveAt (h.od.lt k hk)]
      simp only [befM, Bool.and_eq_true, Bool.or_eq_true, decide_eq_true_iff]
      constructor
      · rintro ⟨z1, ⟨⟨z2, z3⟩, z4⟩, z5⟩
        refine ⟨?_, z1, z2, z3⟩
        refine Classical.byContradiction fun y => ?_
        by_cases y2 : k = j
        · rw [y2] at z4; exact z4 rfl
        · have hkn : k < n := Classical.byContradiction fun y3 => by
            have := h.od.tl k (by omega) hk
            omega
          have := h.od.so j k (by omega) hkn
          simp only [lex, Int32.lt_iff_toInt_lt, ← Int32.toInt_inj] at this z5
          omega
      · rintro ⟨z0, z1, z2, z3⟩
        have := h.od.so k j z0 hjn
        refine ⟨z1, ⟨⟨z2, z3⟩, ?_⟩, ?_⟩
        · intro y
          rw [y] at this
          simp only [lex, Int32.lt_iff_toInt_lt, ← Int32.toInt_inj] at this
          omega
        · simp only [lex, Int32.lt_iff_toInt_lt, ← Int32.toInt_inj] at this ⊢
          omega
    simp only [e]
  omega
theorem m_ordL_some {n : Nat} {μ : MS} {p k : Int32} {e : Nat} (he : liveM μ e = true ∧ μ 8 e = p ∧ m_bef μ p e n = k) (hu : ∀ e', e' < n → liveM μ e' = true ∧ μ 8 e' = p ∧ m_bef μ p e' n = k → e' = e) : ∀ m i, i + m = n → i ≤ e → e < n → m_ordL n μ p k m i = nI e := by
  intro m
  induction m with
  | zero => intro i h1 h2 h3; omega
  | succ m ih =>
    intro i h1 h2 h3
    simp only [m_ordL]
    split
    · rename_i z
      rw [hu i (by omega) z]
    · rename_i z
      refine ih (i + 1) (by omega) ?_ h3
      have : ¬ i = e := fun y => z (by rw [y]; exact he)
      omega
theorem RC.ordS {n c : Nat} {μ : MS} {σ : XS} (h : RC n c μ σ) {j : Nat} (hj : j < 16) {p : Int32} (hP : liveAtX σ (σ.2 j) p = true) : m_ord n μ p (nI (cL σ p j)) = nI (σ.2 j) := by
  have hn := h.hn
  have h1 := (h.liveAt (h.od.lt j hj)).mp hP
  refine m_ordL_some ⟨h1.2.1, h1.2.2, by rw [m_bef_nI, h.rank hj hP]⟩ ?_ n 0 (by omega) (by omega) h1.1
  rintro e' he ⟨z1, z2, z3⟩
  obtain ⟨j', hj', rfl⟩ := h.od.sur (show e' < 16 by omega)
  have hP' : liveAtX σ (σ.2 j') p = true := (h.liveAt (by omega)).mpr ⟨he, z1, z2⟩
  rw [m_bef_nI, h.rank hj' hP'] at z3
  have a1 := cL_le σ p j'
  have a2 := cL_le σ p j
  have := (nI_eq' (by omega) (by omega)).mp z3
  rw [cL_inj σ p hP' hP this]
theorem RC.ordN {n c : Nat} {μ : MS} {σ : XS} (h : RC n c μ σ) {p k : Int32} (hk : ∀ j, j < 16 → liveAtX σ (σ.2 j) p = true → ¬ k = nI (cL σ p j)) : m_ord n μ p k = -1 := by
  have hn := h.hn
  rcases m_ordL_spec n μ p k n 0 with z | ⟨e, -, z1, z2, z3, z4, z5⟩
  · exact z
  · exfalso
    obtain ⟨j, hj, rfl⟩ := h.od.sur (show e < 16 by omega)
    have hP : liveAtX σ (σ.2 j) p = true := (h.liveAt (by omega)).mpr ⟨by omega, z3, z4⟩
    rw [m_bef_nI, h.rank hj hP] at z5
    exact hk j hj hP z5.symm
theorem x_atL_some {σ : XS} {p : Int32} {j : Nat} (hj : j < 16) (hP : liveAtX σ (σ.2 j) p = true) : ∀ m i, i + m = 16 → i ≤ j → x_atL σ p (nI (cL σ p j)) m i (nI (cL σ p i)) = nI (σ.2 j) := by
  intro m
  induction m with
  | zero => intro i h1 h2; omega
  | succ m ih =>
    intro i h1 h2
    simp only [x_atL]
    have a1 := cL_le σ p i
    have a2 := cL_le σ p j
    by_cases q : liveAtX σ (σ.2 i) p = true
    · rw [if_pos q]
      by_cases q2 : i = j
      · rw [q2, if_pos rfl]
      · have := cL_lt σ p (show i < j by omega) q
        rw [if_neg (fun z => by have := (nI_eq' (by omega) (by omega)).mp z; omega), nI_1]
        have e := ih (i + 1) (by omega) (by omega)
        simp only [cL, if_pos q] at e
        exact e
    · rw [if_neg q]
      have hne : ¬ i = j := fun z => q (by rw [z]; exact hP)
      have e := ih (i + 1) (by omega) (by omega)
      rw [show cL σ p (i + 1) = cL σ p i from if_neg q] at e
      exact e
theorem x_atL_none {σ : XS} {p k : Int32} (hk : ∀ j, j < 16 → liveAtX σ (σ.2 j) p = true → ¬ k = nI (cL σ p j)) : ∀ m i, i + m = 16 → x_atL σ p k m i (nI (cL σ p i)) = -1 := by
  intro m
  induction m with
  | zero => intro i _; rfl
  | succ m ih =>
    intro i h1
    simp only [x_atL]
    by_cases q : liveAtX σ (σ.2 i) p = true
    · rw [if_pos q, if_neg (fun z => hk i (by omega) q z.symm), nI_1]
      have e := ih (i + 1) (by omega)
      rw [show cL σ p (i + 1) = cL σ p i + 1 from if_pos q] at e
      exact e
    · rw [if_neg q]
      have e := ih (i + 1) (by omega)
      rw [show cL σ p (i + 1) = cL σ p i from if_neg q] at e
      exact e
theorem RC.at {n c : Nat} {μ : MS} {σ : XS} (h : RC n c μ σ) (p k : Int32) : x_at σ p k = m_at n μ p k := by
  have hn := h.hn
  by_cases q : ∃ j, j < 16 ∧ liveAtX σ (σ.2 j) p = true ∧ k = nI (cL σ p j)
  · obtain ⟨j, hj, hP, rfl⟩ := q
    have e1 : x_at σ p (nI (cL σ p j)) = nI (σ.2 j) := x_atL_some hj hP 16 0 rfl (by omega)
    have a2 := cL_le σ p j
    have a3 := h.od.lt j hj
    have h1 := (h.liveAt a3).mp hP
    obtain ⟨⟨i, hi, hi2⟩, -⟩ := h.er _ h1.1
    rw [e1, m_at, h.ordS hj hP, if_pos]
    refine ⟨?_, nI_0le (by omega), nI_0le (by omega)⟩
    rw [← h1.2.2, hi2, ← in3_R]
    exact decide_eq_true ⟨nI_n0 (by omega), fun z => by have := (nI_le' (a := 3) (by omega) (by omega)).mp z; omega⟩
  · have hk : ∀ j, j < 16 → liveAtX σ (σ.2 j) p = true → ¬ k = nI (cL σ p j) := fun j hj hP z => q ⟨j, hj, hP, z⟩
    have e1 : x_at σ p k = -1 := x_atL_none hk 16 0 rfl
    rw [e1, m_at, h.ordN hk, if_neg (fun z => absurd z.2.2 (by decide))]
