/-! a call: one extension's work -/
/-- the nested call at the depth d with r more below it -/
def CS (n r : Nat) : Prop := ∀ (c d : Nat) (v : MS) (σ : XS) (p x : Int32), d + r = 3 → RC n c v σ →
  ∃ v' k, RC n c v' (x_callP r σ p x).2 ∧ v' 34 0 = nI (d + 1) ∧ v' 20 d = (x_callP r σ p x).1 ∧ (∃ L : Nat, L ≤ 16 ∧ v' 22 d = nI L ∧ v' 23 d = nI L) ∧ (∀ e, liveM v' e = true → liveM v e = true) ∧ (v' 8 = v 8 ∧ v' 19 = v 19) ∧
    (∀ d', d' < d → v' 20 d' = v 20 d' ∧ v' 22 d' = v 22 d' ∧ v' 23 d' = v 23 d' ∧ ∀ t, t < 16 → v' 21 (16 * d' + t) = v 21 (16 * d' + t)) ∧ ∀ g R U, m_cok n g v' R U → m_cok n (g + k) (m_beginC n d v p x) R U
theorem PS.k0 {n d e c : Nat} {v : MS} {σ : XS} {nst : XS → Nat → Int32 → Int32 × XS} (h : RC n c v σ) (hk : v 9 e = 0) : PS n d e c v (x_pass nst σ e (v 20 d)) := by
  have eX : x_pass nst σ e (v 20 d) = (v 20 d + v 10 e, σ) := by
    rw [x_pass, h.e4, h.e5, if_pos hk]
  have eM : m_done n d v e = (0, upd2 (upd2 v 35 0 (-1)) 20 d (v 20 d + v 10 e)) := by rw [m_done, if_pos hk]
  rw [eX]
  exact PS.ok eM (PO.val h _ _)
theorem PS.k1 {n d e c : Nat} {v : MS} {σ : XS} {nst : XS → Nat → Int32 → Int32 × XS} (h : RC n c v σ) (he : e < n) (hl : liveM v e = true) (hk : v 9 e = 1) : PS n d e c v (x_pass nst σ e (v 20 d)) := by
  have eX : x_pass nst σ e (v 20 d) = x_divide σ e (v 20 d) := by
    rw [x_pass, h.e4, if_neg (by rw [hk]; decide), if_pos hk]
  have eM : m_done n d v e = m_divided d (upd2 v 35 0 (-1)) (v 20 d) (v 10 e) := by rw [m_done, if_neg (by rw [hk]; decide), if_pos hk]
  rw [eX, x_divide, h.e5]
  by_cases q : v 10 e = 0
  · rw [if_pos q]
    rw [m_divided, if_pos q] at eM
    exact PS.bad (by decide) (by decide) eM (PO.flt h he hl 1 (-1))
  · rw [if_neg q]
    by_cases q2 : v 10 e = -1
    · rw [m_divided, if_neg q, if_pos q2] at eM
      refine PS.ok eM ?_
      rw [q2, div_m1]
      exact PO.val h _ _
    · rw [m_divided, if_neg q, if_neg q2] at eM
      exact PS.ok eM (PO.val h _ _)
theorem PS.k2 {n d e c : Nat} {v : MS} {σ : XS} {nst : XS → Nat → Int32 → Int32 × XS} (h : RC n c v σ) (he : e < n) (hl : liveM v e = true) (hk : v 9 e = 2) : PS n d e c v (x_pass nst σ e (v 20 d)) := by
  have eX : x_pass nst σ e (v 20 d) = x_look σ e (v 20 d) := by
    rw [x_pass, h.e4, if_neg (by rw [hk]; decide), if_neg (by rw [hk]; decide), if_pos hk]
  have eM : m_done n d v e = m_looked d (upd2 v 35 0 (-1)) (lo4 (v 20 d ^^^ v 10 e)) := by rw [m_done, if_neg (by rw [hk]; decide), if_neg (by rw [hk]; decide), if_pos hk]
  rw [eX, x_look, h.e5]
  by_cases q : lo4 (v 20 d ^^^ v 10 e) < 12
  · rw [if_pos q]
    rw [m_looked, if_pos (by omega)] at eM
    exact PS.ok eM (PO.val h _ _)
  · rw [if_neg q]
    rw [m_looked, if_neg (by omega)] at eM
    exact PS.bad (by decide) (by decide) eM (PO.flt h he hl 2 (-1))
theorem PS.k3 {n d e c : Nat} {v : MS} {σ : XS} {nst : XS → Nat → Int32 → Int32 × XS} (h : RC n c v σ) (he : e < n) (hl : liveM v e = true) (hk : v 9 e = 3) : PS n d e c v (x_pass nst σ e (v 20 d)) := by
  have eX : x_pass nst σ e (v 20 d) = x_ask σ e (v 20 d) := by
    rw [x_pass, h.e4, if_neg (by rw [hk]; decide), if_neg (by rw [hk]; decide), if_neg (by rw [hk]; decide), if_pos hk]
  have eM : m_done n d v e = m_asked d (upd2 v 35 0 (-1)) (v 20 d) (v 10 e) := by rw [m_done, if_neg (by rw [hk]; decide), if_neg (by rw [hk]; decide), if_neg (by rw [hk]; decide), if_pos hk]
  rw [m_asked, u35_2, and7] at eM
  rw [eX, x_ask, h.e5, h.p1, h.p4, h.p5]
  by_cases q : v 1 (lo3 (v 10 e)) = 2 ∧ ¬ v 4 (lo3 (v 10 e)) = 0
  · rw [if_pos q]
    rw [if_pos (show upd2 v 35 0 (-1) 1 (lo3 (v 10 e)) = 2 ∧ ¬ upd2 v 35 0 (-1) 4 (lo3 (v 10 e)) = 0 from q)] at eM
    by_cases q2 : v 4 (lo3 (v 10 e)) = 2
    · rw [if_pos q2]
      rw [if_pos (show upd2 v 35 0 (-1) 4 (lo3 (v 10 e)) = 2 from q2)] at eM
      exact PS.bad (by decide) (by decide) eM (PO.flt h he hl 3 _)
    · rw [if_neg q2]
      rw [if_neg (show ¬ upd2 v 35 0 (-1) 4 (lo3 (v 10 e)) = 2 from q2)] at eM
      exact PS.ok eM (PO.val h _ _)
  · rw [if_neg q]
    rw [if_neg (show ¬ (upd2 v 35 0 (-1) 1 (lo3 (v 10 e)) = 2 ∧ ¬ upd2 v 35 0 (-1) 4 (lo3 (v 10 e)) = 0) from q)] at eM
    exact PS.bad (by decide) (by decide) eM (PO.flt h he hl 4 _)
theorem PS.k4 {n d e c : Nat} {v : MS} {σ : XS} {nst : XS → Nat → Int32 → Int32 × XS} (h : RC n c v σ) (he : e < n) (hl : liveM v e = true) (hk : v 9 e = 4) : PS n d e c v (x_pass nst σ e (v 20 d)) := by
  have eX : x_pass nst σ e (v 20 d) = (v 20 d, x_faulted σ e 5 (-1)) := by
    rw [x_pass, h.e4, if_neg (by rw [hk]; decide), if_neg (by rw [hk]; decide), if_neg (by rw [hk]; decide), if_neg (by rw [hk]; decide), if_pos hk]
  have eM : m_done n d v e = (5, upd2 v 35 0 (-1)) := by rw [m_done, if_neg (by rw [hk]; decide), if_neg (by rw [hk]; decide), if_neg (by rw [hk]; decide), if_neg (by rw [hk]; decide), if_pos hk]
  rw [eX]
  exact PS.bad (by decide) (by decide) eM (PO.flt h he hl 5 (-1))
theorem PS.k6 {n d e c : Nat} {v : MS} {σ : XS} {nst : XS → Nat → Int32 → Int32 × XS} (h : RC n c v σ) (he : e < n) (hl : liveM v e = true) (hk : v 9 e = 6) : PS n d e c v (x_pass nst σ e (v 20 d)) := by
  have eX : x_pass nst σ e (v 20 d) = (if v 10 e ≤ v 20 d then (v 20 d, x_faulted σ e 6 (-1)) else (v 20 d, σ)) := by
    rw [x_pass, h.e4, h.e5, if_neg (by rw [hk]; decide), if_neg (by rw [hk]; decide), if_neg (by rw [hk]; decide), if_neg (by rw [hk]; decide), if_neg (by rw [hk]; decide), if_neg (by rw [hk]; decide), if_pos hk]
  have eM : m_done n d v e = (if v 10 e ≤ v 20 d then (6, upd2 v 35 0 (-1)) else (0, upd2 v 35 0 (-1))) := by rw [m_done, if_neg (by rw [hk]; decide), if_neg (by rw [hk]; decide), if_neg (by rw [hk]; decide), if_neg (by rw [hk]; decide), if_neg (by rw [hk]; decide), if_neg (by rw [hk]; decide), if_pos hk]
  rw [eX]
  by_cases q : v 10 e ≤ v 20 d
  · rw [if_pos q] at eM ⊢
    exact PS.bad (by decide) (by decide) eM (PO.flt h he hl 6 (-1))
  · rw [if_neg q] at eM ⊢
    exact PS.ok eM ⟨h.scr (by omega) _ _, PQ.u35 d v _, rfl⟩
theorem PS.k7 {n d e c : Nat} {v : MS} {σ : XS} {nst : XS → Nat → Int32 → Int32 × XS} (h : RC n c v σ) (hk : v 9 e = 7) : PS n d e c v (x_pass nst σ e (v 20 d)) := by
  have eX : x_pass nst σ e (v 20 d) = (v 20 d + v 13 e, σ) := by
    rw [x_pass, h.e4, h.e8, if_neg (by rw [hk]; decide), if_neg (by rw [hk]; decide), if_neg (by rw [hk]; decide), if_neg (by rw [hk]; decide), if_neg (by rw [hk]; decide), if_neg (by rw [hk]; decide), if_neg (by rw [hk]; decide), if_pos hk]
  have eM : m_done n d v e = (0, upd2 (upd2 v 35 0 (-1)) 20 d (v 20 d + v 13 e)) := by rw [m_done, if_neg (by rw [hk]; decide), if_neg (by rw [hk]; decide), if_neg (by rw [hk]; decide), if_neg (by rw [hk]; decide), if_neg (by rw [hk]; decide), if_neg (by rw [hk]; decide), if_neg (by rw [hk]; decide), if_pos hk]
  rw [eX]
  exact PS.ok eM (PO.val h _ _)
theorem PS.k8 {n d e c : Nat} {v : MS} {σ : XS} {nst : XS → Nat → Int32 → Int32 × XS} (h : RC n c v σ) (he : e < n) (hl : liveM v e = true) (hk : v 9 e = 8) : PS n d e c v (x_pass nst σ e (v 20 d)) := by
  have eX : x_pass nst σ e (v 20 d) = x_bracket σ e (v 20 d) := by
    rw [x_pass, h.e4, if_neg (by rw [hk]; decide), if_neg (by rw [hk]; decide), if_neg (by rw [hk]; decide), if_neg (by rw [hk]; decide), if_neg (by rw [hk]; decide), if_neg (by rw [hk]; decide), if_neg (by rw [hk]; decide), if_neg (by rw [hk]; decide), if_pos hk]
  have eM : m_done n d v e = (if v 20 d = v 10 e then (6, m_tell (upd2 v 35 0 (-1)) (nI (40 + e))) else (0, upd2 (m_tell (upd2 v 35 0 (-1)) (nI (40 + e))) 20 d (2 * v 20 d))) := by rw [m_done, if_neg (by rw [hk]; decide), if_neg (by rw [hk]; decide), if_neg (by rw [hk]; decide), if_neg (by rw [hk]; decide), if_neg (by rw [hk]; decide), if_neg (by rw [hk]; decide), if_neg (by rw [hk]; decide), if_neg (by rw [hk]; decide)]
  have h1 : RC n c (m_tell (upd2 v 35 0 (-1)) (nI (40 + e))) (hnote σ 0 (nI (40 + e))) := (h.scr (f := 35) (by omega) 0 (-1)).tell _
  have hq : PQ d v (m_tell (upd2 v 35 0 (-1)) (nI (40 + e))) := (PQ.u35 d v _).trans (PQ.tell d _ _)
  have h15 : (hnote σ 0 (nI (40 + e))).1 15 e = v 10 e := by rw [hnote_f (by omega) (by omega), h.e5]
  rw [eX, x_bracket, h15]
  by_cases q : v 20 d = v 10 e
  · rw [if_pos q] at eM ⊢
    refine PS.bad (by decide) (by decide) eM ⟨h1.fail he hl 6, hq.trans (PQ.fail d _ e 6), ?_⟩
    rw [m_fail_f (by omega)]
    rfl
  · rw [if_neg q] at eM ⊢
    exact PS.ok eM ⟨h1.scr (by omega) _ _, hq.trans (PQ.u20 d _ _), upd2_s⟩
theorem PS.k5 {n d e c r : Nat} {v : MS} {σ : XS} (hr : d + r = 3) (hC : ∀ r', r = r' + 1 → CS n r') (h : RC n c v σ) (h34 : v 34 0 = nI (d + 1)) (he : e < n) (hl : liveM v e = true) (hk : v 9 e = 5) : PS n d e c v (x_pass (x_nest r) σ e (v 20 d)) := by
  have hn := h.hn
  have hpl : σ.1 12 e = v 7 e := by
    refine h.pp e (by omega) ((h.pr e (by omega)).mpr ⟨he, ?_⟩)
    simp only [liveM, Bool.and_eq_true, decide_eq_true_iff] at hl
    exact hl.1.1
  have eX : x_pass (x_nest r) σ e (v 20 d) = x_nest r σ e (v 20 d) := by
    rw [x_pass, h.e4, if_neg (by rw [hk]; decide), if_neg (by rw [hk]; decide), if_neg (by rw [hk]; decide), if_neg (by rw [hk]; decide), if_neg (by rw [hk]; decide), if_pos hk]
  have eM : m_done n d v e = (if d + 1 = 4 then (7, upd2 v 35 0 (v 7 e)) else
    (if v 10 e &&& 3 = 3 then (8, m_beginC n (d + 1) (upd2 v 35 0 (v 7 e)) 0 (v 20 d + 1)) else (8, m_beginC n (d + 1) (upd2 v 35 0 (v 7 e)) (v 10 e &&& 3) (v 20 d + 1)))) := by
    rw [m_done, u35_2, if_neg (by rw [hk]; decide), if_neg (by rw [hk]; decide), if_neg (by rw [hk]; decide), if_neg (by rw [hk]; decide), if_neg (by rw [hk]; decide), if_pos hk]
  rw [eX]
  cases r with
  | zero =>
    rw [if_pos (by omega)] at eM
    simp only [x_nest, hpl]
    exact PS.bad (by decide) (by decide) eM (PO.flt h he hl 7 _)
  | succ r =>
    rw [if_neg (by omega)] at eM
    have eM2 : m_done n d v e = (8, m_beginC n (d + 1) (upd2 v 35 0 (v 7 e)) (x_ptOf (v 10 e)) (v 20 d + 1)) := by
      rw [eM, x_ptOf]
      split <;> rfl
    simp only [x_nest, h.e5]
    obtain ⟨v', k, y1, y2, y3, ⟨L, y4, y5, y6⟩, y7, y8, y9, y10⟩ := hC r rfl c (d + 1) (upd2 v 35 0 (v 7 e)) σ (x_ptOf (v 10 e)) (v 20 d + 1) (by omega) (h.scr (by omega) _ _)
    refine ⟨upd2 (upd2 v' 34 0 (nI (d + 1))) 20 d (v' 20 (d + 1)), 1 + k, ⟨(y1.scr (by omega) _ _).scr (by omega) _ _, ⟨?_, y7, y8, fun d' hd => ?_, fun d' hd => ?_⟩, ?_⟩, fun g R U q => ?_⟩
    · rw [upd2_f (by omega), upd2_s, h34]
    · rw [upd2_k (by omega)]
      exact (y9 d' (by omega)).1
    · exact (y9 d' (by omega)).2
    · rw [upd2_s, y3]
    · rw [eM2]
      refine clz_8 ?_
      rw [← Nat.add_assoc]
      refine y10 (g + 1) R U ?_
      refine ⟨y1.n1, y1.pm, d + 1, L, L, by omega, y4, y4, y2, y6, y5, fun _ z => by omega, fun _ d' z => ?_, fun z => absurd rfl z⟩
      obtain rfl : d = d' := by omega
      exact q
theorem PS.all {n d e c r : Nat} {v : MS} {σ : XS} (hr : d + r = 3) (hC : ∀ r', r = r' + 1 → CS n r') (h : RC n c v σ) (h34 : v 34 0 = nI (d + 1)) (he : e < n) (hl : liveM v e = true) : PS n d e c v (x_pass (x_nest r) σ e (v 20 d)) := by
  obtain ⟨-, j, hj, hk⟩ := h.er e he
  rcases (show j = 0 ∨ j = 1 ∨ j = 2 ∨ j = 3 ∨ j = 4 ∨ j = 5 ∨ j = 6 ∨ j = 7 ∨ j = 8 by omega) with rfl | rfl | rfl | rfl | rfl | rfl | rfl | rfl | rfl
  · exact PS.k0 h hk
  · exact PS.k1 h he hl hk
  · exact PS.k2 h he hl hk
  · exact PS.k3 h he hl hk
  · exact PS.k4 h he hl hk
  · exact PS.k5 hr hC h h34 he hl hk
  · exact PS.k6 h he hl hk
  · exact PS.k7 h hk
  · exact PS.k8 h he hl hk
