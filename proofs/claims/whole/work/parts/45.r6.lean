/-! a fault -/
theorem lo3_4 (x : Int32) : lo3 x = lo4 x % 8 := by unfold lo3 lo4; omega
theorem lo3_sub {N : Int32} {i : Nat} (h1 : 1 ≤ i) (h7 : i ≤ 7) : ¬ lo3 (N - nI i) = lo3 N := by
  unfold lo3
  have e : (N - nI i).toBitVec.toNat = (2 ^ 32 - i + N.toBitVec.toNat) % 2 ^ 32 := by
    rw [Int32.toBitVec_sub, BitVec.toNat_sub]
    have : (nI i).toBitVec.toNat = i := by
      show (BitVec.ofNat 32 i).toNat = i
      rw [BitVec.toNat_ofNat]
      omega
    rw [this]
  have hN := N.toBitVec.isLt
  rw [e]
  omega
theorem i_back (N : Int32) {i : Nat} (h : 1 ≤ i) : N + 1 - 1 - nI i = N - 1 - nI (i - 1) := by
  obtain ⟨j, rfl⟩ : ∃ j, i = j + 1 := ⟨i - 1, by omega⟩
  rw [show j + 1 - 1 = j by omega, ← nI_1, Int32.add_sub_cancel]
  rw [Int32.sub_eq_add_neg, Int32.sub_eq_add_neg, Int32.sub_eq_add_neg, Int32.neg_add, Int32.sub_eq_add_neg, Int32.add_comm (-nI j), ← Int32.add_assoc]
theorem i_back2 (N : Int32) {i : Nat} (h : 1 ≤ i) : N - 1 - nI (i - 1) = N - nI i := by
  rw [← i_back N h, Int32.add_sub_cancel]
theorem RC.fail1 {n c : Nat} {μ : MS} {σ : XS} (h : RC n c μ σ) {e k : Nat} (he : e < 16) (hk : k < 3) (h12 : μ 12 e = nI k) (kd b : Int32) (hb : b = 0 ↔ k + 1 < 3) : RC n c (upd2 (m_fail0 μ e kd) 14 e b) (x_faulted0 σ e kd (μ 35 0)) := by
  have g1 := h.f1
  have g2 := h.f2
  have g3 := h.f3
  simp only [m_fail0, x_faulted0]
  refine ⟨h.p1, h.p2, h.p3, h.p4, h.p5, h.bt, h.hn, h.n1, h.n2, h.c1, h.c2, h.ck, h.pr, h.pp, h.px, h.pm, h.e3, h.e4, h.e5, h.e6, ?_, h.e8, h.er, ?_, h.v1, h.v2, ?_, ?_, ?_, ?_, h.od⟩
  · rw [hnote_f (by omega) (by omega), hnote_f (by omega) (by omega), hnote_f (by omega) (by omega), xs_u, h.e7]
    rw [upd2_f (by omega), upd2_f (by omega), upd2_f (by omega), upd2_f (by omega), upd2_f (by omega), upd2_u]
  · intro e' he'
    have := h.fl e' he'
    rw [upd2_u, upd2_f (show (12 : Nat) ≠ 14 by omega), upd2_f (show (12 : Nat) ≠ 32 by omega), upd2_f (show (12 : Nat) ≠ 15 by omega), upd2_f (show (12 : Nat) ≠ 15 by omega), upd2_f (show (12 : Nat) ≠ 15 by omega), upd2_u]
    rw [upd2_f (show (14 : Nat) ≠ 32 by omega), upd2_f (show (14 : Nat) ≠ 15 by omega), upd2_f (show (14 : Nat) ≠ 15 by omega), upd2_f (show (14 : Nat) ≠ 15 by omega), upd2_f (show (14 : Nat) ≠ 12 by omega), upd_at, upd_at]
    by_cases q : e' = e
    · subst q
      rw [if_pos rfl, if_pos rfl, h12, nI_1]
      exact ⟨k + 1, by omega, rfl, hb⟩
    · rw [if_neg q, if_neg q]
      exact this
  · show σ.1 31 0 + 1 = μ 32 0 + 1
    rw [g1]
  · show σ.1 32 0 + 1 = μ 32 0 + 1
    rw [g2]
  · show σ.1 33 0 + 1 = μ 32 0 + 1
    rw [g3]
  · intro i hi
    have e32 : upd2 (upd2 (upd2 (upd2 (upd2 (upd2 μ 12 e (μ 12 e + 1)) 15 (3 * lo3 (μ 32 0)) (nI e)) 15 (3 * lo3 (μ 32 0) + 1) kd) 15 (3 * lo3 (μ 32 0) + 2) (μ 35 0)) 32 0 (μ 32 0 + 1)) 14 e b 32 0 = μ 32 0 + 1 := rfl
    rw [e32]
    have a1 : (hnote (hnote (hnote (xs σ 17 e (σ.1 17 e + 1)) 1 (nI e)) 2 kd) 3 (μ 35 0)).1 41 = upd (σ.1 41) (lo4 (μ 32 0)) (nI e) := by
      rw [hnote_f (by omega) (by omega), hnote_f (by omega) (by omega)]
      simp only [hnote, xs]
      rw [upd2_f (by omega), upd2_u, upd2_f (by omega), upd2_f (by omega), g1]
    have a2 : (hnote (hnote (hnote (xs σ 17 e (σ.1 17 e + 1)) 1 (nI e)) 2 kd) 3 (μ 35 0)).1 42 = upd (σ.1 42) (lo4 (μ 32 0)) kd := by
      rw [hnote_f (by omega) (by omega)]
      rw [show (42 : Nat) = 40 + 2 from rfl]
      rw [show ∀ (s : XS) (y : Int32), (hnote s 2 y).1 (40 + 2) = upd (s.1 42) (lo4 (s.1 32 0)) y from fun s y => by
        simp only [hnote, xs]
        rw [upd2_f (by omega), upd2_u]]
      rw [hnote_f (by omega) (by omega), hnote_f (by omega) (by omega), xs_f (by omega), xs_f (by omega), g2]
    have a3 : (hnote (hnote (hnote (xs σ 17 e (σ.1 17 e + 1)) 1 (nI e)) 2 kd) 3 (μ 35 0)).1 43 = upd (σ.1 43) (lo4 (μ 32 0)) (μ 35 0) := by
      rw [show (43 : Nat) = 40 + 3 from rfl]
      rw [show ∀ (s : XS) (y : Int32), (hnote s 3 y).1 (40 + 3) = upd (s.1 43) (lo4 (s.1 33 0)) y from fun s y => by
        simp only [hnote, xs]
        rw [upd2_f (by omega), upd2_u]]
      rw [hnote_f (by omega) (by omega), hnote_f (by omega) (by omega), hnote_f (by omega) (by omega), hnote_f (by omega) (by omega), xs_f (by omega), xs_f (by omega), g3]
    rw [a1, a2, a3]
    simp only [upd_at]
    rw [upd2_f (show (15 : Nat) ≠ 14 by omega), upd2_f (show (15 : Nat) ≠ 32 by omega)]
    by_cases q : i = 0
    · subst q
      rw [show μ 32 0 + 1 - 1 - nI 0 = μ 32 0 by rw [Int32.add_sub_cancel]; exact Int32.sub_zero _]
      rw [if_pos rfl, if_pos rfl, if_pos rfl]
      simp only [upd2_at]
      simp
    · have hi1 : 1 ≤ i := by omega
      rw [i_back _ hi1]
      obtain ⟨r1, r2, r3⟩ := h.fr (i - 1) (by omega)
      have d3 : ¬ lo3 (μ 32 0 - 1 - nI (i - 1)) = lo3 (μ 32 0) := by
        rw [i_back2 _ hi1]; exact lo3_sub hi1 (by omega)
      have d4 : ¬ lo4 (μ 32 0 - 1 - nI (i - 1)) = lo4 (μ 32 0) := fun z => d3 (by rw [lo3_4, lo3_4, z])
      rw [if_neg d4, if_neg d4, if_neg d4, r1, r2, r3]
      generalize lo3 (μ 32 0 - 1 - nI (i - 1)) = A at d3
      generalize lo3 (μ 32 0) = B at d3
      refine ⟨?_, ?_, ?_⟩
      · rw [upd2_k (by omega), upd2_k (by omega), upd2_k (by omega), upd2_f (by omega)]
      · rw [upd2_k (by omega), upd2_k (by omega), upd2_k (by omega), upd2_f (by omega)]
      · rw [upd2_k (by omega), upd2_k (by omega), upd2_k (by omega), upd2_f (by omega)]
theorem RC.fail {n c : Nat} {μ : MS} {σ : XS} (h : RC n c μ σ) {e : Nat} (he : e < n) (hl : liveM μ e = true) (kd : Int32) : RC n c (m_fail μ e kd) (x_faulted σ e kd (μ 35 0)) := by
  have hn := h.hn
  obtain ⟨k, k1, k2, k3⟩ := h.fl e (by omega)
  simp only [liveM, Bool.and_eq_true, decide_eq_true_iff] at hl
  have hk : k < 3 := k3.mp hl.2
  have e12 : m_fail0 μ e kd 12 e = nI (k + 1) := by
    simp only [m_fail0]
    rw [upd2_f (by omega), upd2_f (by omega), upd2_f (by omega), upd2_f (by omega), upd2_s, k2, nI_1]
  have e3 : 3 ≤ nI (k + 1) ↔ 3 ≤ k + 1 := nI_le' (a := 3) (by omega) (by omega)
  simp only [m_fail, e12, e3]
  by_cases q : 3 ≤ k + 1
  · have h1 := h.fail1 (by omega) hk k2 kd 1 ⟨fun z => absurd z (by decide), fun z => by omega⟩
    have hs : shutX (x_faulted0 σ e kd (μ 35 0)) e = true := by
      rw [h1.shut (by omega)]
      exact ⟨⟨he, hl.1.1⟩, by rw [upd2_s]; decide⟩
    rw [if_pos q, x_faulted, if_pos hs]
    exact h1.tell _
  · have h1 := h.fail1 (by omega) hk k2 kd 0 ⟨fun _ => by omega, fun _ => rfl⟩
    have e0 : upd2 (m_fail0 μ e kd) 14 e 0 = m_fail0 μ e kd := by
      funext f j
      rw [upd2_at]
      split
      · rename_i z
        rw [z.1, z.2]
        exact hl.2.symm
      · rfl
    rw [e0] at h1
    have hs : ¬ shutX (x_faulted0 σ e kd (μ 35 0)) e = true := by
      rw [h1.shut (by omega)]
      rintro ⟨-, z⟩
      exact z hl.2
    rw [if_neg q, x_faulted, if_neg hs]
    exact h1
theorem m_fail_f {μ : MS} {e : Nat} {kd : Int32} {f : Nat} (h : f ≠ 12 ∧ f ≠ 15 ∧ f ≠ 32 ∧ f ≠ 14 ∧ f ≠ 16 ∧ f ≠ 33) : m_fail μ e kd f = μ f := by
  obtain ⟨h1, h2, h3, h4, h5, h6⟩ := h
  have e0 : m_fail0 μ e kd f = μ f := by
    simp only [m_fail0]
    rw [upd2_f h3, upd2_f h2, upd2_f h2, upd2_f h2, upd2_f h1]
  simp only [m_fail]
  split
  · simp only [m_tell]
    rw [upd2_f h6, upd2_f h5, upd2_f h4, e0]
  · exact e0
theorem m_fail_live {μ : MS} {e : Nat} {kd : Int32} {e' : Nat} (h : liveM (m_fail μ e kd) e' = true) : liveM μ e' = true := by
  have e14 : m_fail μ e kd 14 e' = 0 → μ 14 e' = 0 := by
    intro z
    have e0 : m_fail0 μ e kd 14 = μ 14 := by
      simp only [m_fail0]
      rw [upd2_f (by omega), upd2_f (by omega), upd2_f (by omega), upd2_f (by omega), upd2_f (by omega)]
    simp only [m_fail] at z
    split at z
    · simp only [m_tell] at z
      rw [upd2_f (by omega), upd2_f (by omega), upd2_u, upd_at, e0] at z
      split at z
      · exact absurd z (by decide)
      · exact z
    · rw [e0] at z; exact z
  simp only [liveM, Bool.and_eq_true, decide_eq_true_iff] at h ⊢
  rw [m_fail_f (by omega), m_fail_f (by omega)] at h
  exact ⟨h.1, e14 h.2⟩
/-! what a step of a call leaves on the reference's side -/
def PQ (d : Nat) (v v' : MS) : Prop := v' 34 0 = v 34 0 ∧ (∀ e, liveM v' e = true → liveM v e = true) ∧ (v' 8 = v 8 ∧ v' 19 = v 19) ∧ (∀ d', d' < d → v' 20 d' = v 20 d') ∧ ∀ d', d' ≤ d → v' 22 d' = v 22 d' ∧ v' 23 d' = v 23 d' ∧ ∀ t, t < 16 → v' 21 (16 * d' + t) = v 21 (16 * d' + t)
theorem PQ.trans {d : Nat} {a b c : MS} (h : PQ d a b) (g : PQ d b c) : PQ d a c := by
  obtain ⟨h1, h2, h3, h4, h5⟩ := h
  obtain ⟨g1, g2, g3, g4, g5⟩ := g
  refine ⟨g1.trans h1, fun e q => h2 e (g2 e q), ⟨g3.1.trans h3.1, g3.2.trans h3.2⟩, fun d' hd => (g4 d' hd).trans (h4 d' hd), fun d' hd => ?_⟩
  obtain ⟨u1, u2, u3⟩ := h5 d' hd
  obtain ⟨w1, w2, w3⟩ := g5 d' hd
  exact ⟨w1.trans u1, w2.trans u2, fun t ht => (w3 t ht).trans (u3 t ht)⟩
theorem PQ.refl (d : Nat) (v : MS) : PQ d v v := ⟨rfl, fun _ h => h, ⟨rfl, rfl⟩, fun _ _ => rfl, fun _ _ => ⟨rfl, rfl, fun _ _ => rfl⟩⟩
theorem PQ.u35 (d : Nat) (v : MS) (a : Int32) : PQ d v (upd2 v 35 0 a) := ⟨rfl, fun _ h => h, ⟨rfl, rfl⟩, fun _ _ => rfl, fun _ _ => ⟨rfl, rfl, fun _ _ => rfl⟩⟩
theorem PQ.tell (d : Nat) (v : MS) (a : Int32) : PQ d v (m_tell v a) := ⟨rfl, fun _ h => h, ⟨rfl, rfl⟩, fun _ _ => rfl, fun _ _ => ⟨rfl, rfl, fun _ _ => rfl⟩⟩
theorem PQ.u20 (d : Nat) (v : MS) (a : Int32) : PQ d v (upd2 v 20 d a) := ⟨rfl, fun _ h => h, ⟨rfl, rfl⟩, fun _ _ => upd2_k (by omega), fun _ _ => ⟨rfl, rfl, fun _ _ => rfl⟩⟩
theorem PQ.fail (d : Nat) (v : MS) (e : Nat) (kd : Int32) : PQ d v (m_fail v e kd) := by
  refine ⟨?_, fun _ h => m_fail_live h, ⟨m_fail_f (by omega), m_fail_f (by omega)⟩, fun d' _ => ?_, fun d' _ => ⟨?_, ?_, fun t _ => ?_⟩⟩
  · rw [m_fail_f (by omega)]
  · rw [m_fail_f (by omega)]
  · rw [m_fail_f (by omega)]
  · rw [m_fail_f (by omega)]
  · rw [m_fail_f (by omega)]
def PO (n c d : Nat) (v : MS) (σ' : XS) (y : Int32) (v' : MS) : Prop := RC n c v' σ' ∧ PQ d v v' ∧ v' 20 d = y
def m_clz (n g e : Nat) (f : Int32) (w : MS) (R : Int32) (U : MS) : Prop := (f ≤ 0 → m_cok n g w R U) ∧ (¬ f ≤ 0 → 8 ≤ f → m_cok n g w R U) ∧ (¬ f ≤ 0 → ¬ 8 ≤ f → m_cok n g (m_fail w e f) R U)
theorem clz_0 {n g e : Nat} {w : MS} {R : Int32} {U : MS} (h : m_cok n g w R U) : m_clz n g e 0 w R U := ⟨fun _ => h, fun z => absurd (by decide) z, fun z => absurd (by decide) z⟩
theorem clz_8 {n g e : Nat} {w : MS} {R : Int32} {U : MS} (h : m_cok n g w R U) : m_clz n g e 8 w R U := ⟨fun z => absurd z (by decide), fun _ _ => h, fun _ z => absurd (by decide) z⟩
theorem clz_f {n g e : Nat} {f : Int32} {w : MS} {R : Int32} {U : MS} (h1 : ¬ f ≤ 0) (h2 : ¬ 8 ≤ f) (h : m_cok n g (m_fail w e f) R U) : m_clz n g e f w R U := ⟨fun z => absurd z h1, fun _ z => absurd z h2, fun _ _ => h⟩
/-- the machine's work on one row, as the class's on one extension -/
def PS (n d e : Nat) (c : Nat) (v : MS) (X : Int32 × XS) : Prop := ∃ v' k, PO n c d v X.2 X.1 v' ∧ ∀ g R U, m_cok n g v' R U → m_clz n (g + k) e (m_done n d v e).1 (m_done n d v e).2 R U
theorem PS.ok {n d e c : Nat} {v w : MS} {X : Int32 × XS} (hd : m_done n d v e = (0, w)) (h : PO n c d v X.2 X.1 w) : PS n d e c v X := ⟨w, 0, h, fun g R U q => by rw [hd]; exact clz_0 q⟩
theorem PS.bad {n d e c : Nat} {v w : MS} {X : Int32 × XS} {f : Int32} (h1 : ¬ f ≤ 0) (h2 : ¬ 8 ≤ f) (hd : m_done n d v e = (f, w)) (h : PO n c d v X.2 X.1 (m_fail w e f)) : PS n d e c v X := ⟨_, 0, h, fun g R U q => by rw [hd]; exact clz_f h1 h2 q⟩
theorem PO.val {n c d : Nat} {v : MS} {σ : XS} (h : RC n c v σ) (a y : Int32) : PO n c d v σ y (upd2 (upd2 v 35 0 a) 20 d y) := ⟨(h.scr (by omega) _ _).scr (by omega) _ _, (PQ.u35 d v a).trans (PQ.u20 d _ y), upd2_s⟩
theorem PO.flt {n c d e : Nat} {v : MS} {σ : XS} (h : RC n c v σ) (he : e < n) (hl : liveM v e = true) (kd a : Int32) : PO n c d v (x_faulted σ e kd a) (v 20 d) (m_fail (upd2 v 35 0 a) e kd) := by
  refine ⟨(h.scr (f := 35) (by omega) 0 a).fail he hl kd, (PQ.u35 d v a).trans (PQ.fail d _ e kd), ?_⟩
  rw [m_fail_f (by omega), upd2_f (by omega)]
theorem u35_2 (v : MS) (a b : Int32) : upd2 (upd2 v 35 0 a) 35 0 b = upd2 v 35 0 b := by
  funext f k
  simp only [upd2_at]
  split <;> rfl
theorem div_m1 (x : Int32) : x / -1 = -x := by
  apply Int32.toInt_inj.mp
  rw [Int32.toInt_div, show ((-1 : Int32)).toInt = -1 from by decide, Int.tdiv_neg, Int.tdiv_one, Int32.toInt_neg]
