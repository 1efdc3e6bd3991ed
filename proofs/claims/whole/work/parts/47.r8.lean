/-! a call: the walk over the order and the reference's rows -/
theorem cL_ivt (σ : XS) (p : Int32) : ∀ m k, k < cL σ p m → ∃ j, j < m ∧ liveAtX σ (σ.2 j) p = true ∧ cL σ p j = k := by
  intro m
  induction m with
  | zero => intro k hk; exact absurd hk (Nat.not_lt_zero _)
  | succ m ih =>
    intro k hk
    by_cases q : liveAtX σ (σ.2 m) p = true
    · by_cases q2 : k < cL σ p m
      · obtain ⟨j, j1, j2⟩ := ih k q2
        exact ⟨j, by omega, j2⟩
      · simp only [cL, if_pos q] at hk
        exact ⟨m, by omega, q, by omega⟩
    · simp only [cL, if_neg q] at hk
      obtain ⟨j, j1, j2⟩ := ih k hk
      exact ⟨j, by omega, j2⟩
theorem RC.len {n c : Nat} {μ : MS} {σ : XS} (h : RC n c μ σ) (p : Int32) : m_len n μ p = cL σ p 16 := by
  have hL := cL_le σ p 16
  have key : ∀ g k, k ≤ cL σ p 16 → cL σ p 16 - k < g → m_lenL n μ p g k = cL σ p 16 := by
    intro g
    induction g with
    | zero => intro k _ h2; omega
    | succ g ih =>
      intro k h1 h2
      simp only [m_lenL]
      by_cases q : k < cL σ p 16
      · obtain ⟨j, j1, j2, j3⟩ := cL_ivt σ p 16 k q
        have e := h.ordS j1 j2
        rw [j3] at e
        have := h.od.lt j j1
        rw [e, if_pos (nI_0le (by omega))]
        exact ih (k + 1) (by omega) (by omega)
      · obtain rfl : k = cL σ p 16 := by omega
        have e := h.ordN (p := p) (k := nI (cL σ p 16)) (fun j hj hP z => by
          have a1 := cL_lt σ p hj hP
          have := (nI_eq' (by omega) (by omega)).mp z
          omega)
        rw [e, if_neg (by decide)]
  exact key 17 0 (by omega) (by omega)
theorem RC.rows {n c : Nat} {μ : MS} {σ : XS} (h : RC n c μ σ) (d : Nat) (p : Int32) (k : Nat) : RC n c (m_rows n d p μ k) σ := by
  induction k with
  | zero => exact h
  | succ k ih => exact (ih.scr (by omega) _ _).scr (by omega) _ _
theorem m_rows_f {n d : Nat} {p : Int32} {v : MS} {f : Nat} (h1 : f ≠ 21) (h2 : f ≠ 22) (k : Nat) : m_rows n d p v k f = v f := by
  induction k with
  | zero => rfl
  | succ k ih =>
    simp only [m_rows]
    rw [upd2_f h2, upd2_f h1, ih]
theorem m_rows_22o {n d : Nat} {p : Int32} {v : MS} {d' : Nat} (h : d' ≠ d) (k : Nat) : m_rows n d p v k 22 d' = v 22 d' := by
  induction k with
  | zero => rfl
  | succ k ih =>
    simp only [m_rows]
    rw [upd2_k h, upd2_f (by omega), ih]
theorem m_rows_21 {n d : Nat} {p : Int32} {v : MS} (K i : Nat) : m_rows n d p v K 21 i = if 16 * d ≤ i ∧ i < 16 * d + K then m_ord n v p (nI (i - 16 * d)) else v 21 i := by
  induction K with
  | zero => rw [if_neg (by omega)]; rfl
  | succ K ih =>
    simp only [m_rows]
    rw [upd2_f (by omega), upd2_u, upd_at]
    by_cases q : i = 16 * d + K
    · rw [if_pos q, if_pos (by omega), show i - 16 * d = K by omega]
    · rw [if_neg q, ih]
      by_cases q2 : 16 * d ≤ i ∧ i < 16 * d + K
      · rw [if_pos q2, if_pos (by omega)]
      · rw [if_neg q2, if_neg (by omega)]
theorem liveAt_down {n c c' : Nat} {v v' : MS} {σ σ' : XS} (h : RC n c v σ) (h' : RC n c' v' σ') (hl : ∀ e, liveM v' e = true → liveM v e = true) (h8 : v' 8 = v 8) {e : Nat} (he : e < 16) {p : Int32} (hP : liveAtX σ' e p = true) : liveAtX σ e p = true := by
  obtain ⟨a1, a2, a3⟩ := (h'.liveAt he).mp hP
  exact (h.liveAt he).mpr ⟨a1, hl e a2, by rw [← h8]; exact a3⟩
theorem call_loop {n r d : Nat} {p : Int32} {σb : XS} (hr : d + r = 3) (hC : ∀ r', r = r' + 1 → CS n r') (hb : ∀ j, j < 16 → σb.2 j < 16) (hbn : ∀ j, j < 16 → liveAtX σb (σb.2 j) p = true → σb.2 j < n) : ∀ (m i c : Nat) (v : MS) (σ : XS), i + m = 16 → RC n c v σ → σ.2 = σb.2 → σ.1 13 = σb.1 13 → (∀ e, e < 16 → liveAtX σ e p = true → liveAtX σb e p = true) → v 34 0 = nI (d + 1) → v 23 d = nI (cL σb p i) → v 22 d = nI (cL σb p 16) → (∀ j, j < 16 → liveAtX σb (σb.2 j) p = true → v 21 (16 * d + cL σb p j) = nI (σb.2 j)) →
    ∃ v' k, RC n c v' (x_callL (x_pass (x_nest r)) p m i σ (v 20 d)).2 ∧ v' 34 0 = nI (d + 1) ∧ v' 20 d = (x_callL (x_pass (x_nest r)) p m i σ (v 20 d)).1 ∧ v' 22 d = nI (cL σb p 16) ∧ v' 23 d = nI (cL σb p 16) ∧ (∀ e, liveM v' e = true → liveM v e = true) ∧ (v' 8 = v 8 ∧ v' 19 = v 19) ∧
      (∀ d', d' < d → v' 20 d' = v 20 d' ∧ v' 22 d' = v 22 d' ∧ v' 23 d' = v 23 d' ∧ ∀ t, t < 16 → v' 21 (16 * d' + t) = v 21 (16 * d' + t)) ∧ ∀ g R U, m_cok n g v' R U → m_cok n (g + k) v R U := by
  intro m
  induction m with
  | zero =>
    intro i c v σ hi hR h2 h13 hmono h34 h23 h22 h21
    obtain rfl : i = 16 := by omega
    exact ⟨v, 0, hR, h34, rfl, h22, h23, fun _ h => h, ⟨rfl, rfl⟩, fun _ _ => ⟨rfl, rfl, rfl, fun _ _ => rfl⟩, fun g R U q => q⟩
  | succ m ih =>
    intro i c v σ hi hR h2 h13 hmono h34 h23 h22 h21
    have hn := hR.hn
    have hi16 : i < 16 := by omega
    have hL := cL_le σb p 16
    simp only [x_callL, h2]
    by_cases qb : liveAtX σb (σb.2 i) p = true
    · have ht := cL_lt σb p hi16 qb
      have hs : cL σb p (i + 1) = cL σb p i + 1 := if_pos qb
      have he16 := hb i hi16
      have hrow := h21 i hi16 qb
      have hne : ¬ cL σb p i = cL σb p 16 := by omega
      -- the row's count moved on
      have hw : RC n c (upd2 v 23 d (nI (cL σb p i + 1))) σ := hR.scr (by omega) _ _
      have h8 : v 8 (σb.2 i) = p := by
        rw [← hR.e3, h13]
        simp only [liveAtX, Bool.and_eq_true, decide_eq_true_iff] at qb
        exact qb.1
      by_cases q : liveAtX σ (σb.2 i) p = true
      · rw [if_pos q]
        obtain ⟨z1, z2, z3⟩ := (hR.liveAt he16).mp q
        have h18 : σ.1 18 (σb.2 i) = v 13 (σb.2 i) := by rw [hR.e8]
        have hw1 : RC n c (upd2 (upd2 v 23 d (nI (cL σb p i + 1))) 13 (σb.2 i) (v 13 (σb.2 i) + 1)) (xs σ 18 (σb.2 i) (σ.1 18 (σb.2 i) + 1)) := by
          refine ⟨hw.p1, hw.p2, hw.p3, hw.p4, hw.p5, hw.bt, hw.hn, hw.n1, hw.n2, hw.c1, hw.c2, hw.ck, hw.pr, hw.pp, hw.px, hw.pm, hw.e3, hw.e4, hw.e5, hw.e6, hw.e7, ?_, hw.er, hw.fl, hw.v1, hw.v2, hw.f1, hw.f2, hw.f3, hw.fr, hw.od⟩
          rw [xs_u, upd2_u, h18, hw.e8]
        have hps := PS.all (d := d) (e := σb.2 i) hr hC hw1 (show upd2 (upd2 v 23 d (nI (cL σb p i + 1))) 13 (σb.2 i) (v 13 (σb.2 i) + 1) 34 0 = nI (d + 1) from h34) z1 (show liveM (upd2 (upd2 v 23 d (nI (cL σb p i + 1))) 13 (σb.2 i) (v 13 (σb.2 i) + 1)) (σb.2 i) = true from z2)
        obtain ⟨v1, k1, ⟨y1, ⟨w1, w2, w3, w4, w5⟩, y3⟩, y4⟩ := hps
        have e20 : upd2 (upd2 v 23 d (nI (cL σb p i + 1))) 13 (σb.2 i) (v 13 (σb.2 i) + 1) 20 d = v 20 d := rfl
        rw [e20] at y1 y3
        have hkeep := x_keep_pass (x_keep_nest r) (xs σ 18 (σb.2 i) (σ.1 18 (σb.2 i) + 1)) (σb.2 i) (v 20 d)
        generalize x_pass (x_nest r) (xs σ 18 (σb.2 i) (σ.1 18 (σb.2 i) + 1)) (σb.2 i) (v 20 d) = X at *
        obtain ⟨y, σ1⟩ := X
        dsimp only at *
        have g23 : v1 23 d = nI (cL σb p (i + 1)) := by
          rw [(w5 d (Nat.le_refl d)).2.1, upd2_f (by omega), upd2_s, hs]
        have g22 : v1 22 d = nI (cL σb p 16) := by
          rw [(w5 d (Nat.le_refl d)).1]; exact h22
        have g21 : ∀ j, j < 16 → liveAtX σb (σb.2 j) p = true → v1 21 (16 * d + cL σb p j) = nI (σb.2 j) := by
          intro j hj hP
          have := cL_le σb p j
          rw [(w5 d (Nat.le_refl d)).2.2 _ (by omega)]
          exact h21 j hj hP
        have g2 : σ1.2 = σb.2 := hkeep.1.trans h2
        have g13 : σ1.1 13 = σb.1 13 := by
          rw [hkeep.2 13 (by omega) (by omega) (by omega), xs_f (by omega), h13]
        have gm : ∀ e, e < 16 → liveAtX σ1 e p = true → liveAtX σb e p = true := fun e he hP => hmono e he (liveAt_down hR y1 (fun e' z => w2 e' z) w3.1 he hP)
        obtain ⟨v2, k2, u1, u2, u3, u4, u5, u6, u7, u8, u9⟩ := ih (i + 1) c v1 σ1 (by omega) y1 g2 g13 gm (by rw [w1]; exact h34) g23 g22 g21
        rw [y3] at u1 u3
        refine ⟨v2, k2 + k1 + 1, u1, u2, u3, u4, u5, fun e z => w2 e (u6 e z), ⟨u7.1.trans w3.1, u7.2.trans w3.2⟩, fun d' hd => ?_, fun g R U z => ?_⟩
        · obtain ⟨t1, t2, t3, t4⟩ := u8 d' hd
          obtain ⟨s1, s2, s3⟩ := w5 d' (by omega)
          refine ⟨t1.trans (w4 d' hd), t2.trans s1, (t3.trans s2).trans ?_, fun t ht => (t4 t ht).trans (s3 t ht)⟩
          rw [upd2_f (by omega), upd2_k (by omega)]
        · rw [show g + (k2 + k1 + 1) = (g + k2 + k1) + 1 by omega]
          refine ⟨hR.n1, hR.pm, d, cL σb p i, cL σb p 16, by omega, by omega, hL, h34, h23, h22, fun z2 => absurd z2 hne, fun z2 => absurd z2 hne, fun _ => ⟨σb.2 i, by omega, he16, hrow, fun z3 => absurd z2 z3, fun _ f w hd => ?_⟩⟩
          have := y4 (g + k2) R U (u9 g R U z)
          rw [hd] at this
          exact this
      · rw [if_neg q]
        have hnl : ¬ liveM v (σb.2 i) = true := fun z => q ((hR.liveAt he16).mpr ⟨hbn i hi16 qb, z, h8⟩)
        obtain ⟨v2, k2, u1, u2, u3, u4, u5, u6, u7, u8, u9⟩ := ih (i + 1) c _ σ (by omega) hw h2 h13 hmono h34 (by rw [upd2_s, hs]) h22 h21
        refine ⟨v2, k2 + 1, u1, u2, u3, u4, u5, u6, u7, fun d' hd => ?_, fun g R U z => ?_⟩
        · obtain ⟨t1, t2, t3, t4⟩ := u8 d' hd
          exact ⟨t1, t2, t3.trans (upd2_k (by omega)), t4⟩
        · rw [show g + (k2 + 1) = (g + k2) + 1 by omega]
          refine ⟨hR.n1, hR.pm, d, cL σb p i, cL σb p 16, by omega, by omega, hL, h34, h23, h22, fun z2 => absurd z2 hne, fun z2 => absurd z2 hne, fun _ => ⟨σb.2 i, by omega, he16, hrow, fun _ => u9 g R U z, fun z2 => absurd z2 hnl⟩⟩
    · have q : ¬ liveAtX σ (σb.2 i) p = true := fun z => qb (hmono _ (hb i hi16) z)
      rw [if_neg q]
      have hs : cL σb p (i + 1) = cL σb p i := if_neg qb
      exact ih (i + 1) c v σ (by omega) hR h2 h13 hmono h34 (by rw [hs]; exact h23) h22 h21
theorem CS_of {n r : Nat} (hC : ∀ r', r = r' + 1 → CS n r') : CS n r := by
  intro c d v σ p x hr hR
  have hn := hR.hn
  have hL := cL_le σ p 16
  have h0 : RC n c (m_bc0 d v x) σ := ((hR.scr (by omega) _ _).scr (by omega) _ _).scr (by omega) _ _
  have hlen := h0.len p
  have h1 : RC n c (m_beginC n d v p x) σ := (h0.rows d p _).scr (by omega) _ _
  have b34 : m_beginC n d v p x 34 0 = nI (d + 1) := upd2_s
  have b23 : m_beginC n d v p x 23 d = nI (cL σ p 0) := by
    rw [m_beginC, upd2_f (by omega), m_rows_f (by omega) (by omega), m_bc0, upd2_s]; rfl
  have b22 : m_beginC n d v p x 22 d = nI (cL σ p 16) := by
    rw [m_beginC, upd2_f (by omega), m_rows_22 n d p _ (by rw [m_bc0, upd2_f (by omega), upd2_s]), hlen]
  have b20 : m_beginC n d v p x 20 d = x := by
    rw [m_beginC, upd2_f (by omega), m_rows_f (by omega) (by omega), m_bc0, upd2_f (by omega), upd2_f (by omega), upd2_s]
  have b21 : ∀ j, j < 16 → liveAtX σ (σ.2 j) p = true → m_beginC n d v p x 21 (16 * d + cL σ p j) = nI (σ.2 j) := by
    intro j hj hP
    have := cL_lt σ p hj hP
    rw [m_beginC, upd2_f (by omega), hlen, m_rows_21, if_pos (by omega), show 16 * d + cL σ p j - 16 * d = cL σ p j by omega]
    exact h0.ordS hj hP
  have blow : ∀ d', d' < d → m_beginC n d v p x 20 d' = v 20 d' ∧ m_beginC n d v p x 22 d' = v 22 d' ∧ m_beginC n d v p x 23 d' = v 23 d' ∧ ∀ t, t < 16 → m_beginC n d v p x 21 (16 * d' + t) = v 21 (16 * d' + t) := by
    intro d' hd
    refine ⟨?_, ?_, ?_, fun t ht => ?_⟩
    · rw [m_beginC, upd2_f (by omega), m_rows_f (by omega) (by omega), m_bc0, upd2_f (by omega), upd2_f (by omega), upd2_k (by omega)]
    · rw [m_beginC, upd2_f (by omega), m_rows_22o (by omega), m_bc0, upd2_f (by omega), upd2_k (by omega), upd2_f (by omega)]
    · rw [m_beginC, upd2_f (by omega), m_rows_f (by omega) (by omega), m_bc0, upd2_k (by omega), upd2_f (by omega), upd2_f (by omega)]
    · rw [m_beginC, upd2_f (by omega), m_rows_21, if_neg (by omega), m_bc0, upd2_f (by omega), upd2_f (by omega), upd2_f (by omega)]
  have blive : ∀ e, liveM (m_beginC n d v p x) e = liveM v e := by
    intro e
    exact (ns_live (ns_u (m_rows_ns n d p _ _) (by omega)) e).trans (ns_live (m_bc0_ns d v x) e)
  have b8 : m_beginC n d v p x 8 = v 8 := by
    rw [m_beginC, upd2_f (by omega), m_rows_f (by omega) (by omega)]; rfl
  have b19 : m_beginC n d v p x 19 = v 19 := by
    rw [m_beginC, upd2_f (by omega), m_rows_f (by omega) (by omega)]; rfl
  obtain ⟨v', k, u1, u2, u3, u4, u5, u6, u7, u8, u9⟩ := call_loop (p := p) (σb := σ) hr hC hR.od.lt (fun j hj hP => ((hR.liveAt (hR.od.lt j hj)).mp hP).1) 16 0 c (m_beginC n d v p x) σ rfl h1 rfl rfl (fun _ _ z => z) b34 b23 b22 b21
  rw [b20] at u1 u3
  rw [x_callP_eq]
  refine ⟨v', k, u1, u2, u3, ⟨cL σ p 16, hL, u4, u5⟩, fun e z => ?_, ⟨u7.1.trans b8, u7.2.trans b19⟩, fun d' hd => ?_, u9⟩
  · rw [← blive]; exact u6 e z
  · obtain ⟨t1, t2, t3, t4⟩ := u8 d' hd
    obtain ⟨s1, s2, s3, s4⟩ := blow d' hd
    exact ⟨t1.trans s1, t2.trans s2, t3.trans s3, fun t ht => (t4 t ht).trans (s4 t ht)⟩
theorem CS_all (n : Nat) : ∀ r, CS n r := by
  intro r
  induction r with
  | zero => exact CS_of fun r' z => by omega
  | succ r ih => exact CS_of fun r' z => (Nat.succ.inj z) ▸ ih
theorem RZ.call {n c : Nat} {μ : MS} {σ : XS} (h : RZ n c μ σ) (p x : Int32) : ∃ U, m_clOK n μ p x (x_call σ p x).1 U ∧ RZ n c U (x_call σ p x).2 := by
  obtain ⟨hR, z7, z8, z19⟩ := id h
  simp only [x_call, in3_R]
  by_cases q : inR p 0 2 = true
  · rw [if_pos q]
    obtain ⟨v', k, u1, u2, u3, ⟨L, u4, u5, u6⟩, u7, u8, u9, u10⟩ := CS_all n 3 c 0 (upd2 μ 34 0 0) σ p x rfl (hR.scr (by omega) _ _)
    have hk := x_keep_call 3 σ p x
    have h19 : v' 19 = fun _ => 0 := by
      rw [u8.2]; exact z19
    refine ⟨v', ⟨fun z => absurd q z, fun _ => ⟨1 + k, u10 1 _ _ ?_⟩⟩, u1, ?_, ?_, h19⟩
    · exact ⟨u1.n1, u1.pm, 0, L, L, by omega, u4, u4, u2, u6, u5, fun _ _ => ⟨u3.symm, rfl⟩, fun _ d' z => by omega, fun z => absurd rfl z⟩
    · rw [hk.2 7 (by omega) (by omega) (by omega), z7]
    · rw [hk.2 8 (by omega) (by omega) (by omega), z8]
  · rw [if_neg q]
    exact ⟨μ, ⟨fun _ => ⟨rfl, rfl⟩, fun z => absurd z q⟩, h⟩
