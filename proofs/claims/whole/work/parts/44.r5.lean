/-! stop: the class's recursion and the reference's loop -/
theorem RC.last {n c : Nat} {μ : MS} {σ : XS} (h : RC n c μ σ) (hc : c + 1 < 2 ^ 31) (h8 : σ.1 8 = μ 19) (q : Nat) : x_last σ q = m_last μ q := by
  have key : ∀ m, m ≤ 8 → x_lastL σ q m = m_lastL μ q m := by
    intro m
    induction m with
    | zero => intro _; rfl
    | succ m ih =>
      intro hm
      have ih := ih (by omega)
      have e : (σ.1 1 m = 2 ∧ σ.1 8 m = 0 ∧ bitb (σ.1 2 m) (nI q) = true ∧ x_later σ m (x_lastL σ q m) = true) ↔ (μ 1 m = 2 ∧ μ 19 m = 0 ∧ ¬ (μ 2 m >>> (nI q &&& 31)) &&& 1 = 0 ∧ m_later μ m (m_lastL μ q m) = true) := by
        rw [h.p1, h8, h.p2, bitb_iff, ih]
        cases el : m_lastL μ q m with
        | none => exact Iff.rfl
        | some b =>
          have hb := m_lastL_lt el
          simp only [x_later, m_later, decide_eq_true_iff]
          refine and_congr_right fun z1 => and_congr_right fun _ => and_congr_right fun _ => ?_
          obtain ⟨s, s1, s2, s3⟩ := h.ck m (by omega) z1
          obtain ⟨t, t1, t2, t3⟩ := h.ck b (by omega) hb.2.1
          rw [s2, s3, t2, t3, nI_le' (by omega) (by omega), nI_le' (by omega) (by omega)]
          omega
      simp only [x_lastL, m_lastL]
      rw [ih] at e ⊢
      simp only [e]
  exact key 8 (Nat.le_refl 8)
theorem st_loop {nn c : Nat} (hc : c + 1 < 2 ^ 31) : ∀ (n : Nat) (σ : XS) (v : MS) (p : Nat) (a : Int32) (h : Nat) (cnt : Int32), p < 8 → RC nn c v σ → σ.1 8 = v 19 → v 17 h = nI p → cntA σ 8 < n → cnt0 (σ.1 8) 8 + (h + 1) = 8 →
    ∃ k v' d, RC nn c v' (x_stopL n σ p a).2 ∧ (x_stopL n σ p a).2.1 8 = v' 19 ∧ v' 19 = v 19 ∧ (x_stopL n σ p a).2.1 7 = σ.1 7 ∧ (∀ i, i ≤ h → v' 17 i = v 17 i) ∧ x_last (x_stopL n σ p a).2 p = none ∧ (x_stopL n σ p a).1 = a + d ∧ ∀ g R U, m_tok g (cnt + d) (h + 1) v' R U → m_tok (g + k) cnt (h + 1) v R U := by
  intro n
  induction n with
  | zero => intro σ v p a h cnt hp hR h8 hv hn; omega
  | succ n ih =>
    intro σ v p a h cnt hp hR h8 hv hn hf
    cases hl : x_last σ p with
    | none =>
      rw [x_stopL_n hl]
      exact ⟨0, v, 0, hR, h8, rfl, rfl, fun _ _ => rfl, hl, (Int32.add_zero a).symm, fun g R U q => by rw [Int32.add_zero] at q; exact q⟩
    | some q =>
      rw [x_stopL_s hl]
      have hq := x_lastL_lt hl
      have hq8 : q < 8 := hq.1
      have lv : m_last v p = some q := by rw [← hR.last hc h8]; exact hl
      have cf : cnt0 ((xs σ 8 q 1).1 8) 8 + 1 = cnt0 (σ.1 8) 8 := by
        have := cnt0_upd (f := σ.1 8) (p := q) (v := 1) hq.2.2 (by decide) 8
        rw [if_pos hq8] at this
        rw [xs_u]
        exact this
      have hR1 : RC nn c (upd2 (upd2 v 17 (h + 1) (nI q)) 19 q 1) (xs σ 8 q 1) := ((hR.set78 (Or.inr rfl) q 1).scr (by omega) _ _).set19 _ _
      obtain ⟨k1, v2, d1, y1, y2, y3, y4, y5, y6, y7, y8⟩ := ih (xs σ 8 q 1) (upd2 (upd2 v 17 (h + 1) (nI q)) 19 q 1) q 0 (h + 1) cnt hq8 hR1 (by rw [xs_u, upd2_u, h8]; rfl) (by rw [upd2_f (by omega), upd2_s]) (by have := cntA_flag hq8 hq.2; omega) (by omega)
      have ep : x_stopP n σ q = ((x_stopL n (xs σ 8 q 1) q 0).1 + 1, hnote (xs (xs (x_stopL n (xs σ 8 q 1) q 0).2 8 q 0) 1 q 1) 0 (nI (20 + q))) := rfl
      have hlt := cntA_stop (n := n) hq8 hq.2
      rw [ep] at hlt ⊢
      dsimp only at hlt ⊢
      rw [y7, Int32.zero_add]
      generalize (x_stopL n (xs σ 8 q 1) q 0).2 = σ2 at *
      have lv2 : m_last v2 q = none := by rw [← y1.last hc y2]; exact y6
      have b19 : v2 19 = upd (v 19) q 1 := by rw [y3, upd2_u]; rfl
      have back : upd (upd (v 19) q 1) q 0 = v 19 := upd_back (by rw [← h8]; exact hq.2.2)
      have hR3 : RC nn c (m_tell (upd2 (upd2 v2 19 q 0) 1 q 1) (nI (20 + q))) (hnote (xs (xs σ2 8 q 0) 1 q 1) 0 (nI (20 + q))) := (((y1.set78 (Or.inr rfl) q 0).set19 q 0).set1 q (by decide)).tell _
      have e19 : m_tell (upd2 (upd2 v2 19 q 0) 1 q 1) (nI (20 + q)) 19 = v 19 := by
        simp only [m_tell]
        rw [upd2_f (by omega), upd2_f (by omega), upd2_f (by omega), upd2_u, b19, back]
      have e8 : (hnote (xs (xs σ2 8 q 0) 1 q 1) 0 (nI (20 + q))).1 8 = v 19 := by
        rw [hnote_f (by omega) (by omega), xs_f (by omega), xs_u, y2, b19, back]
      have e7 : (hnote (xs (xs σ2 8 q 0) 1 q 1) 0 (nI (20 + q))).1 7 = σ.1 7 := by
        rw [hnote_f (by omega) (by omega), xs_f (by omega), xs_f (by omega), y4, xs_f (by omega)]
      have e17 : ∀ i, i ≤ h → m_tell (upd2 (upd2 v2 19 q 0) 1 q 1) (nI (20 + q)) 17 i = v 17 i := by
        intro i hi
        have : v2 17 i = v 17 i := by
          rw [y5 i (by omega), upd2_f (by omega), upd2_k (by omega)]
        exact this
      obtain ⟨k3, v4, d3, w1, w2, w3, w4, w5, w6, w7, w8⟩ := ih _ _ p (a + (d1 + 1)) h (cnt + d1 + 1) hp hR3 (by rw [e8, e19]) (by rw [e17 h (Nat.le_refl h)]; exact hv) (by omega) (by rw [e8, ← h8]; exact hf)
      refine ⟨k3 + 1 + k1 + 1, v4, d1 + 1 + d3, w1, w2, by rw [w3, e19], by rw [w4, e7], fun i hi => by rw [w5 i hi, e17 i hi], w6, by rw [w7, Int32.add_assoc], fun g R U z => ?_⟩
      rw [show g + (k3 + 1 + k1 + 1) = (g + k3 + 1 + k1) + 1 by omega]
      refine ⟨p, by omega, hp, hv, fun q' hq' => ?_, fun z2 => by rw [lv] at z2; cases z2⟩
      rw [lv] at hq'
      cases hq'
      refine y8 _ R U ?_
      have v17 : v2 17 (h + 1) = nI q := by rw [y5 _ (Nat.le_refl _), upd2_f (by omega), upd2_s]
      refine ⟨q, by omega, hq8, v17, fun q' hq' => (by rw [lv2] at hq'; cases hq'), fun _ => ?_⟩
      refine w8 g R U ?_
      rw [show cnt + d1 + 1 + d3 = cnt + (d1 + 1 + d3) by rw [Int32.add_assoc, Int32.add_assoc, Int32.add_assoc]]
      exact z
theorem RZ.stop {n c : Nat} {μ : MS} {σ : XS} (h : RZ n c μ σ) (hc : c + 1 < 2 ^ 31) (x : Int32) : ∃ U, m_spOK μ x (x_stop σ x).1 U ∧ RZ n c U (x_stop σ x).2 := by
  obtain ⟨hR, z7, z8, z19⟩ := id h
  simp only [x_stop, in8_R, hR.p1]
  by_cases q : inR x 0 7 = true ∧ μ 1 (pn x) = 2
  · rw [if_pos q]
    obtain ⟨p, hp, rfl⟩ := inR07_of q.1
    have ep : pn (nI p) = p := pn_nI (by omega)
    rw [ep] at q ⊢
    have hR1 : RC n c (upd2 (upd2 μ 17 0 (nI p)) 19 p 1) (xs σ 8 p 1) := ((hR.set78 (Or.inr rfl) p 1).scr (by omega) _ _).set19 _ _
    have cf : cnt0 ((xs σ 8 p 1).1 8) 8 + 1 = 8 := by
      have := cnt0_upd (f := σ.1 8) (p := p) (v := 1) (by rw [z8]) (by decide) 8
      rw [if_pos hp, z8, cnt0_0] at this
      rw [xs_u, z8]
      exact this
    obtain ⟨k1, v2, d1, y1, y2, y3, y4, y5, y6, y7, y8⟩ := st_loop hc 9 (xs σ 8 p 1) (upd2 (upd2 μ 17 0 (nI p)) 19 p 1) p 0 0 0 hp hR1 (by rw [xs_u, upd2_u, z8, ← z19]; rfl) (by rw [upd2_f (by omega), upd2_s]) (by have := cntA_le (xs σ 8 p 1) 8; omega) (by omega)
    simp only [x_stopP]
    rw [y7, Int32.zero_add]
    rw [Int32.zero_add] at y8
    generalize (x_stopL 9 (xs σ 8 p 1) p 0).2 = σ2 at *
    have lv2 : m_last v2 p = none := by rw [← y1.last hc y2]; exact y6
    have b19 : v2 19 = upd (μ 19) p 1 := by rw [y3, upd2_u]; rfl
    have back : upd (upd (μ 19) p 1) p 0 = μ 19 := upd_back (by rw [z19])
    refine ⟨m_tell (upd2 (upd2 v2 19 p 0) 1 p 1) (nI (20 + p)), ⟨fun z => absurd (by rw [ep]; exact q) z, fun _ => ⟨1 + 1 + k1, ?_⟩⟩, (((y1.set78 (Or.inr rfl) p 0).set19 p 0).set1 p (by decide)).tell _, ?_, ?_, ?_⟩
    · rw [ep]
      refine y8 (1 + 1) _ _ ?_
      refine ⟨p, show (0 : Nat) < 9 by omega, hp, by rw [y5 0 (Nat.le_refl 0), upd2_f (by omega), upd2_s], fun q' hq' => (by rw [lv2] at hq'; cases hq'), fun _ => ⟨rfl, rfl⟩⟩
    · rw [hnote_f (by omega) (by omega), xs_f (by omega), xs_f (by omega), y4, xs_f (by omega), z7]
    · rw [hnote_f (by omega) (by omega), xs_f (by omega), xs_u, y2, b19, back, z19]
    · simp only [m_tell]
      rw [upd2_f (by omega), upd2_f (by omega), upd2_f (by omega), upd2_u, b19, back, z19]
  · rw [if_neg q]
    exact ⟨μ, ⟨fun _ => ⟨rfl, rfl⟩, fun z => absurd z q⟩, h⟩
