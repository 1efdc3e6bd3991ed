/-! start: the class's recursion and the reference's loop -/
def aN (f : Nat → Int32) : Nat → Nat
  | 0 => 0
  | n + 1 => if f n = 2 then aN f n + 1 else aN f n
theorem aN_le (f : Nat → Int32) (n : Nat) : aN f n ≤ n := by
  induction n with
  | zero => exact Nat.le_refl _
  | succ n ih => simp only [aN]; split <;> omega
theorem aN_upd {f : Nat → Int32} {p : Nat} (hp : ¬ f p = 2) (n : Nat) : aN (upd f p 2) n = aN f n + if p < n then 1 else 0 := by
  induction n with
  | zero => rfl
  | succ n ih =>
    simp only [aN, upd_at, ih]
    by_cases q : n = p
    · subst q
      simp [hp]
    · simp only [if_neg q]
      have e : (p < n + 1) ↔ p < n := by omega
      simp only [e]
      split <;> split <;> omega
def RZ (n c : Nat) (μ : MS) (σ : XS) : Prop := RC n c μ σ ∧ (σ.1 7 = fun _ => 0) ∧ (σ.1 8 = fun _ => 0) ∧ μ 19 = fun _ => 0
theorem RC.act {n c : Nat} {μ : MS} {σ : XS} (h : RC n c μ σ) (p : Nat) : RC n (c + 1) (m_act μ p) (x_activate (xs σ 7 p 0) p) := by
  have h1 : RC n (c + 1) (upd2 (upd2 (upd2 (upd2 μ 19 p 0) 1 p 2) 30 0 (μ 30 0 + 1)) 6 p (μ 30 0 + 1)) (xs (xs (xs (xs σ 7 p 0) 1 p 2) 6 p (σ.1 28 0)) 28 0 (σ.1 28 0 + 1)) := by
    rw [h.c1, h.c2, nI_1]
    refine ⟨?_, h.p2, h.p3, h.p4, h.p5, h.bt, h.hn, h.n1, h.n2, rfl, rfl, ?_, h.pr, h.pp, h.px, h.pm, h.e3, h.e4, h.e5, h.e6, h.e7, h.e8, h.er, h.fl, h.v1, h.v2, h.f1, h.f2, h.f3, h.fr, h.od⟩
    · rw [xs_f (by omega), xs_f (by omega), xs_u, upd2_f (by omega), upd2_f (by omega), upd2_u, xs_f (by omega), upd2_f (by omega), h.p1]
    · intro k hk hk1
      rw [upd2_f (by omega), upd2_f (by omega), upd2_u, upd2_f (by omega), upd_at] at hk1
      rw [upd2_u, upd_at, xs_f (by omega), xs_u, upd_at]
      by_cases q : k = p
      · rw [if_pos q, if_pos q]
        exact ⟨c, by omega, rfl, rfl⟩
      · rw [if_neg q] at hk1
        rw [if_neg q, if_neg q]
        obtain ⟨s, s1, s2, s3⟩ := h.ck k hk hk1
        exact ⟨s, by omega, s2, s3⟩
  exact h1.tell _
/-- what a start leaves, from v and σ, with h rows of the stack below it -/
def SO (n c h : Nat) (v : MS) (σ σ' : XS) (c' : Nat) (v' : MS) : Prop := RC n c' v' σ' ∧ σ'.1 7 = v' 19 ∧ σ'.1 8 = σ.1 8 ∧ v' 19 = v 19 ∧ c' + aN (σ.1 1) 8 = c + aN (σ'.1 1) 8 ∧ (∀ k, ¬ σ.1 7 k = 0 → σ'.1 1 k = σ.1 1 k) ∧ v' 2 = v 2 ∧ v' 3 = v 3 ∧ ∀ i, i < h → v' 17 i = v 17 i ∧ v' 18 i = v 18 i
theorem SO.trans {n c1 c2 c3 h : Nat} {v1 v2 v3 : MS} {σ1 σ2 σ3 : XS} (h7 : σ1.1 7 = v1 19) (a : SO n c1 h v1 σ1 σ2 c2 v2) (b : SO n c2 h v2 σ2 σ3 c3 v3) : SO n c1 h v1 σ1 σ3 c3 v3 := by
  obtain ⟨a1, a2, a3, a4, a5, a6, a7, a8, a9⟩ := a
  obtain ⟨b1, b2, b3, b4, b5, b6, b7, b8, b9⟩ := b
  refine ⟨b1, b2, b3.trans a3, b4.trans a4, by omega, fun k hk => ?_, b7.trans a7, b8.trans a8, fun i hi => ⟨(b9 i hi).1.trans (a9 i hi).1, (b9 i hi).2.trans (a9 i hi).2⟩⟩
  rw [b6 k (by rw [a2, a4, ← h7]; exact hk), a6 k hk]
theorem SO.mono {n c h h' : Nat} {v : MS} {σ σ' : XS} {c' : Nat} {v' : MS} (a : SO n c h' v σ σ' c' v') (hh : h ≤ h') : SO n c h v σ σ' c' v' := by
  obtain ⟨a1, a2, a3, a4, a5, a6, a7, a8, a9⟩ := a
  exact ⟨a1, a2, a3, a4, a5, a6, a7, a8, fun i hi => a9 i (by omega)⟩
def m_push (v : MS) (h p : Nat) : MS := upd2 (upd2 (upd2 v 17 h (nI p)) 18 h 0) 19 p 1
def m_pop (g : Nat) (code : Int32) (h : Nat) (v2 : MS) (R : Int32) (U : MS) : Prop := (h = 0 → m_sok g code 0 v2 R U) ∧
  ∀ h', h = h' + 1 → ∃ xp kp, xp < 8 ∧ v2 17 h' = nI xp ∧ v2 18 h' = nI kp ∧ ((v2 3 xp >>> ((nI kp - 1) &&& 31)) &&& 1 = 0 → m_sok g code (h' + 1) v2 R U) ∧ (¬ (v2 3 xp >>> ((nI kp - 1) &&& 31)) &&& 1 = 0 → m_sok g 0 (h' + 1) v2 R U)
/-- the start of one plugin that may be begun, n the class's fuel -/
def SA (nn n : Nat) : Prop := ∀ (c h : Nat) (v : MS) (σ : XS) (p : Nat), p < 8 → RC nn c v σ → σ.1 7 = v 19 → cnt0 (σ.1 7) 8 + h = 8 → cnt0 (σ.1 7) 8 < n → m_bs v p = 1 →
  ∃ k c' v', SO nn c h v σ (x_startP n σ p).2 c' v' ∧ ∀ g R U, m_pop g (x_startP n σ p).1 h v' R U → m_sok (g + k) 0 (h + 1) (m_push v h p) R U
theorem x_startP_bs {nn c n : Nat} {v : MS} {σ : XS} {p : Nat} (h : RC nn c v σ) (h7 : σ.1 7 = v 19) (hb : ¬ m_bs v p = 1) : x_startP (n + 1) σ p = (m_bs v p, σ) := by
  simp only [x_startP, m_bs, h.p1, h7] at hb ⊢
  by_cases q1 : v 1 p = 0
  · rw [if_pos q1, if_pos q1]
  · by_cases q2 : v 1 p = 2
    · rw [if_neg q1, if_neg q1, if_pos q2, if_pos q2]
    · by_cases q3 : v 19 p = 0
      · rw [if_neg q1, if_neg q2, if_pos q3] at hb
        exact absurd rfl hb
      · rw [if_neg q1, if_neg q1, if_neg q2, if_neg q2, if_pos q3, if_neg q3]
/-- the needs of p from the j-th on -/
def SB (nn n : Nat) : Prop := ∀ (m j c h : Nat) (v : MS) (σ : XS) (p : Nat), j + m = 8 → p < 8 → RC nn c v σ → σ.1 7 = v 19 → cnt0 (σ.1 7) 8 + (h + 1) = 8 → cnt0 (σ.1 7) 8 < n → v 17 h = nI p → v 18 h = nI j →
  ∃ k c' v' j', SO nn c h v σ (x_needL (x_startP n) p m j σ).2 c' v' ∧ v' 17 h = nI p ∧ v' 18 h = nI j' ∧ j' ≤ 8 ∧ ((x_needL (x_startP n) p m j σ).1 = 0 → j' = 8) ∧ ∀ g R U, m_sok g (x_needL (x_startP n) p m j σ).1 (h + 1) v' R U → m_sok (g + k) 0 (h + 1) v R U
theorem upd2_17 {v : MS} {h p : Nat} {x : Int32} {f : Nat} (hf : f ≠ 18) : upd2 v 18 h x f = v f := upd2_f hf
theorem SB_of {nn n : Nat} (A : SA nn n) : SB nn n := by
  intro m
  induction m with
  | zero =>
    intro j c h v σ p hj hp hR h7 hc hcn hv1 hv2
    obtain rfl : j = 8 := by omega
    exact ⟨0, c, v, 8, ⟨hR, h7, rfl, rfl, rfl, fun _ _ => rfl, rfl, rfl, fun _ _ => ⟨rfl, rfl⟩⟩, hv1, hv2, by omega, fun _ => rfl, fun g R U q => q⟩
  | succ m ih =>
    intro j c h v σ p hj hp hR h7 hc hcn hv1 hv2
    obtain ⟨n, rfl⟩ : ∃ n', n = n' + 1 := ⟨n - 1, by omega⟩
    -- the row's count moved on
    have hw : RC nn c (upd2 v 18 h (nI (j + 1))) σ := hR.scr (by omega) _ _
    have w7 : σ.1 7 = upd2 v 18 h (nI (j + 1)) 19 := h7
    have w17 : upd2 v 18 h (nI (j + 1)) 17 h = nI p := hv1
    have w18 : upd2 v 18 h (nI (j + 1)) 18 h = nI (j + 1) := upd2_s
    have wSO : SO nn c h v σ σ c (upd2 v 18 h (nI (j + 1))) := ⟨hw, w7, rfl, rfl, rfl, fun _ _ => rfl, rfl, rfl, fun i hi => ⟨rfl, upd2_k (by omega)⟩⟩
    have wbs : m_bs (upd2 v 18 h (nI (j + 1))) j = m_bs v j := rfl
    generalize ew : upd2 v 18 h (nI (j + 1)) = w at hw w7 w17 w18 wSO wbs
    have w33 : w 3 = v 3 := by rw [← ew]; rfl
    obtain ⟨a0, b0, l1, l2, l3, l4, l5⟩ := hR.bits p hp
    have hj8 : j < 8 := by omega
    have e2 : bitb (σ.1 2 p) (nI j) = a0.testBit j := by rw [hR.p2, l3, bit_t a0 l1 j hj8]
    have e3 : bitb (σ.1 3 p) (nI j) = b0.testBit j := by rw [hR.p3, l4, bit_t b0 l2 j hj8]
    have en : m_nb v p j ↔ a0.testBit j = true := by rw [← e2, bitb_iff, hR.p2]; rfl
    have ew' : m_wb v p j ↔ b0.testBit j = true := by rw [← e3, bitb_iff, hR.p3]; rfl
    have hdis := l5 j hj8
    -- what the machine does at its head
    have step : ∀ (g : Nat) (R : Int32) (U : MS),
        ((¬ m_wb v p j → ¬ m_nb v p j → m_sok g 0 (h + 1) w R U) ∧ (m_wb v p j → ¬ v 1 j = 1 → m_sok g 0 (h + 1) w R U) ∧
          ((m_wb v p j ∧ v 1 j = 1) ∨ (¬ m_wb v p j ∧ m_nb v p j) → ((m_bs v j = 1 → m_sok g 0 (h + 1 + 1) (m_push w (h + 1) j) R U) ∧ (¬ m_bs v j = 1 → m_wb v p j → m_sok g 0 (h + 1) w R U) ∧ (¬ m_bs v j = 1 → ¬ m_wb v p j → m_sok g (m_bs v j) (h + 1) w R U)))) →
        m_sok (g + 1) 0 (h + 1) v R U := by
      intro g R U hh
      subst ew
      refine ⟨p, j, by omega, hp, by omega, hv1, hv2, fun q => ?_, fun _ _ => hh⟩
      rcases q with q | q
      · exact absurd rfl q
      · omega
    obtain ⟨k2, c2, v2, j2, s2, t1, t2, t3, t4, t5⟩ := ih (j + 1) c h w σ p (by omega) hp hw w7 hc hcn w17 w18
    -- a nested start
    have nest : m_bs v j = 1 → ∃ k c' v', SO nn c h v σ (x_startP (n + 1) σ j).2 c' v' ∧ v' 17 h = nI p ∧ v' 18 h = nI (j + 1) ∧ v' 3 = v 3 ∧ v' 19 = v 19 ∧ (x_startP (n + 1) σ j).2.1 7 = v' 19 ∧ RC nn c' v' (x_startP (n + 1) σ j).2 ∧
        (m_wb v p j → ∀ g R U, m_sok g 0 (h + 1) v' R U → m_sok (g + k) 0 (h + 1 + 1) (m_push w (h + 1) j) R U) ∧ (¬ m_wb v p j → ∀ g R U, m_sok g (x_startP (n + 1) σ j).1 (h + 1) v' R U → m_sok (g + k) 0 (h + 1 + 1) (m_push w (h + 1) j) R U) := by
      intro hb
      obtain ⟨k1, c1, v1, s1, r1⟩ := A c (h + 1) w σ j hj8 hw w7 hc hcn (by rw [wbs]; exact hb)
      obtain ⟨y1, y2, y3, y4, y5, y6, y7, y8, y9⟩ := id s1
      have z17 : v1 17 h = nI p := by rw [(y9 h (by omega)).1]; exact w17
      have z18 : v1 18 h = nI (j + 1) := by rw [(y9 h (by omega)).2]; exact w18
      have z3 : v1 3 = v 3 := by rw [y8, w33]
      have z19 : v1 19 = v 19 := by rw [y4, ← w7, h7]
      refine ⟨k1, c1, v1, wSO.trans h7 (s1.mono (by omega)), z17, z18, z3, z19, y2, y1, fun hwb g R U q => ?_, fun hwb g R U q => ?_⟩
      · refine r1 g R U ⟨fun z => by omega, fun h' z => ?_⟩
        obtain rfl : h = h' := by omega
        refine ⟨p, j + 1, hp, z17, z18, fun y => ?_, fun _ => q⟩
        rw [z3, nI_s1] at y
        exact absurd y hwb
      · refine r1 g R U ⟨fun z => by omega, fun h' z => ?_⟩
        obtain rfl : h = h' := by omega
        refine ⟨p, j + 1, hp, z17, z18, fun _ => q, fun y => ?_⟩
        rw [z3, nI_s1] at y
        exact absurd y hwb
    simp only [x_needL, e2, e3]
    by_cases qa : a0.testBit j = true
    · have qb : ¬ m_wb v p j := fun z => hdis ⟨qa, ew'.mp z⟩
      have qn : m_nb v p j := en.mpr qa
      rw [if_pos qa]
      by_cases hb : m_bs v j = 1
      · obtain ⟨k, c', v', s1, z17, z18, z3, z19, z7, z0, -, zz⟩ := nest hb
        by_cases q0 : (x_startP (n + 1) σ j).1 = 0
        · rw [if_pos q0]
          obtain ⟨k3, c3, v3, j3, s3, u1, u2, u3, u4, u5⟩ := ih (j + 1) c' h v' _ p (by omega) hp z0 z7 (by rw [z7, z19, ← h7]; exact hc) (by rw [z7, z19, ← h7]; exact hcn) z17 z18
          refine ⟨k3 + k + 1, c3, v3, j3, s1.trans h7 s3, u1, u2, u3, u4, fun g R U q => ?_⟩
          rw [show g + (k3 + k + 1) = g + k3 + k + 1 by omega]
          refine step _ _ _ ⟨fun _ y => absurd qn y, fun y => absurd y qb, fun _ => ⟨fun _ => zz qb _ _ _ ?_, fun y => absurd hb y, fun y => absurd hb y⟩⟩
          rw [q0]
          exact u5 g R U q
        · rw [if_neg q0]
          refine ⟨k + 1, c', v', j + 1, s1, z17, z18, by omega, fun y => absurd y q0, fun g R U q => ?_⟩
          rw [show g + (k + 1) = g + k + 1 by omega]
          exact step _ _ _ ⟨fun _ y => absurd qn y, fun y => absurd y qb, fun _ => ⟨fun _ => zz qb _ _ _ q, fun y => absurd hb y, fun y => absurd hb y⟩⟩
      · rw [x_startP_bs hR h7 hb]
        dsimp only
        by_cases q0 : m_bs v j = 0
        · rw [if_pos q0]
          refine ⟨k2 + 1, c2, v2, j2, wSO.trans h7 s2, t1, t2, t3, t4, fun g R U q => ?_⟩
          rw [show g + (k2 + 1) = g + k2 + 1 by omega]
          refine step _ _ _ ⟨fun _ y => absurd qn y, fun y => absurd y qb, fun _ => ⟨fun y => absurd y hb, fun _ y => absurd y qb, fun _ _ => ?_⟩⟩
          rw [q0]
          exact t5 g R U q
        · rw [if_neg q0]
          refine ⟨1, c, w, j + 1, wSO, w17, w18, by omega, fun y => absurd y q0, fun g R U q => ?_⟩
          exact step _ _ _ ⟨fun _ y => absurd qn y, fun y => absurd y qb, fun _ => ⟨fun y => absurd y hb, fun _ y => absurd y qb, fun _ _ => q⟩⟩
    · rw [if_neg qa]
      have qn : ¬ m_nb v p j := fun z => qa (en.mp z)
      by_cases qb : b0.testBit j = true ∧ σ.1 1 j = 1
      · rw [if_pos qb]
        have qw : m_wb v p j := ew'.mpr qb.1
        have q1 : v 1 j = 1 := by rw [← hR.p1]; exact qb.2
        by_cases hb : m_bs v j = 1
        · obtain ⟨k, c', v', s1, z17, z18, z3, z19, z7, z0, zz, -⟩ := nest hb
          obtain ⟨k3, c3, v3, j3, s3, u1, u2, u3, u4, u5⟩ := ih (j + 1) c' h v' _ p (by omega) hp z0 z7 (by rw [z7, z19, ← h7]; exact hc) (by rw [z7, z19, ← h7]; exact hcn) z17 z18
          refine ⟨k3 + k + 1, c3, v3, j3, s1.trans h7 s3, u1, u2, u3, u4, fun g R U q => ?_⟩
          rw [show g + (k3 + k + 1) = g + k3 + k + 1 by omega]
          exact step _ _ _ ⟨fun y => absurd qw y, fun _ y => absurd q1 y, fun _ => ⟨fun _ => zz qw _ _ _ (u5 g R U q), fun y => absurd hb y, fun y => absurd hb y⟩⟩
        · rw [x_startP_bs hR h7 hb]
          dsimp only
          refine ⟨k2 + 1, c2, v2, j2, wSO.trans h7 s2, t1, t2, t3, t4, fun g R U q => ?_⟩
          rw [show g + (k2 + 1) = g + k2 + 1 by omega]
          exact step _ _ _ ⟨fun y => absurd qw y, fun _ y => absurd q1 y, fun _ => ⟨fun y => absurd y hb, fun _ _ => t5 g R U q, fun _ y => absurd qw y⟩⟩
      · rw [if_neg qb]
        refine ⟨k2 + 1, c2, v2, j2, wSO.trans h7 s2, t1, t2, t3, t4, fun g R U q => ?_⟩
        rw [show g + (k2 + 1) = g + k2 + 1 by omega]
        refine step _ _ _ ⟨fun _ _ => t5 g R U q, fun _ _ => t5 g R U q, fun y => ?_⟩
        rcases y with ⟨y1, y2⟩ | ⟨y1, y2⟩
        · exact absurd ⟨ew'.mp y1, by rw [hR.p1]; exact y2⟩ qb
        · exact absurd y2 qn
theorem SA_of {nn n : Nat} (A : SA nn n) : SA nn (n + 1) := by
  intro c h v σ p hp hR h7 hc hcn hb
  have hb' := hb
  simp only [m_bs] at hb'
  by_cases q1 : v 1 p = 0
  · rw [if_pos q1] at hb'; exact absurd hb' (by decide)
  by_cases q2 : v 1 p = 2
  · rw [if_neg q1, if_pos q2] at hb'; exact absurd hb' (by decide)
  by_cases q3 : v 19 p = 0
  · have hf : σ.1 7 p = 0 := by rw [h7]; exact q3
    have hle : h ≤ 7 := by
      have := cnt0_upd (f := σ.1 7) (p := p) (v := 1) hf (by decide) 8
      rw [if_pos hp] at this
      omega
    have hR0 : RC nn c (m_push v h p) (xs σ 7 p 1) := ((hR.set78 (Or.inl rfl) p 1).scr (by omega) _ _ |>.scr (by omega) _ _).set19 _ _
    have h70 : (xs σ 7 p 1).1 7 = m_push v h p 19 := by
      rw [xs_u, h7, m_push, upd2_u]; rfl
    have hc0 : cnt0 ((xs σ 7 p 1).1 7) 8 + (h + 1) = 8 ∧ cnt0 ((xs σ 7 p 1).1 7) 8 < n := by
      have := cnt0_upd (f := σ.1 7) (p := p) (v := 1) hf (by decide) 8
      rw [if_pos hp] at this
      rw [xs_u]
      omega
    have r17 : m_push v h p 17 h = nI p := by
      rw [m_push, upd2_f (by omega), upd2_f (by omega), upd2_s]
    have r18 : m_push v h p 18 h = nI 0 := by
      rw [m_push, upd2_f (by omega), upd2_s]; rfl
    obtain ⟨k, c1, v1, j1, s1, t1, t2, t3, t4, t5⟩ := SB_of A 8 0 c h (m_push v h p) (xs σ 7 p 1) p rfl hp hR0 h70 hc0.1 hc0.2 r17 r18
    obtain ⟨y1, y2, y3, y4, y5, y6, y7, y8, y9⟩ := s1
    have eX : x_startP (n + 1) σ p = if (x_needL (x_startP n) p 8 0 (xs σ 7 p 1)).1 = 0 then (0, x_activate (xs (x_needL (x_startP n) p 8 0 (xs σ 7 p 1)).2 7 p 0) p) else ((x_needL (x_startP n) p 8 0 (xs σ 7 p 1)).1, xs (x_needL (x_startP n) p 8 0 (xs σ 7 p 1)).2 7 p 0) := by
      rw [x_startP, if_neg (by rw [hR.p1]; exact q1), if_neg (by rw [hR.p1]; exact q2), if_neg (fun z => z hf)]
    rw [eX]
    generalize x_needL (x_startP n) p 8 0 (xs σ 7 p 1) = nd at *
    obtain ⟨r, σ1⟩ := nd
    dsimp only at *
    have b19 : v1 19 = upd (v 19) p 1 := by rw [y4, m_push, upd2_u]; rfl
    have back : upd (upd (v 19) p 1) p 0 = v 19 := upd_back q3
    have st1 : σ1.1 1 p = v 1 p := by
      rw [y6 p (by rw [xs_u, upd_at, if_pos rfl]; decide), xs_f (by omega), hR.p1]
    have rows : ∀ i, i < h → v1 17 i = v 17 i ∧ v1 18 i = v 18 i := fun i hi => by
      rw [(y9 i hi).1, (y9 i hi).2]
      simp only [m_push, upd2_at]
      simp [show ¬ i = h by omega]
    have keep : ∀ k, ¬ σ.1 7 k = 0 → ¬ k = p ∧ σ1.1 1 k = σ.1 1 k := fun k hk => by
      have hkp : ¬ k = p := fun z => hk (by rw [z]; exact hf)
      refine ⟨hkp, ?_⟩
      rw [y6 k (by rw [xs_u, upd_at, if_neg hkp]; exact hk), xs_f (by omega)]
    by_cases q0 : r = 0
    · subst q0
      rw [if_pos rfl]
      have ej := t4 rfl
      subst ej
      refine ⟨k + 1, c1 + 1, m_act v1 p, ⟨y1.act p, ?_, ?_, ?_, ?_, fun k hk => ?_, ?_, ?_, fun i hi => ?_⟩, fun g R U q => ?_⟩
      · simp only [x_activate, m_act, m_tell]
        rw [hnote_f (by omega) (by omega), xs_f (by omega), xs_f (by omega), xs_f (by omega), xs_u, upd2_f (by omega), upd2_f (by omega), upd2_f (by omega), upd2_f (by omega), upd2_f (by omega), upd2_u, y2]
      · simp only [x_activate]
        rw [hnote_f (by omega) (by omega), xs_f (by omega), xs_f (by omega), xs_f (by omega), xs_f (by omega), y3, xs_f (by omega)]
      · simp only [m_act, m_tell]
        rw [upd2_f (by omega), upd2_f (by omega), upd2_f (by omega), upd2_f (by omega), upd2_f (by omega), upd2_u, b19, back]
      · simp only [x_activate]
        rw [hnote_f (by omega) (by omega), xs_f (by omega), xs_f (by omega), xs_u, xs_f (by omega), aN_upd (by rw [st1]; exact q2), if_pos hp]
        rw [xs_f (by omega)] at y5
        omega
      · simp only [x_activate]
        rw [hnote_f (by omega) (by omega), xs_f (by omega), xs_f (by omega), xs_u, xs_f (by omega), upd_at, if_neg (keep k hk).1, (keep k hk).2]
      · show v1 2 = v 2
        rw [y7]; rfl
      · show v1 3 = v 3
        rw [y8]; rfl
      · exact rows i hi
      · rw [show g + (k + 1) = (g + 1) + k by omega]
        refine t5 (g + 1) R U ?_
        refine ⟨p, 8, by omega, hp, by omega, t1, t2, fun _ => ⟨m_act v1 p, fun _ => rfl, fun z => absurd rfl z, q.1, q.2⟩, fun _ z => absurd rfl z⟩
    · rw [if_neg q0]
      refine ⟨k + 1, c1, upd2 v1 19 p 0, ⟨(y1.set78 (Or.inl rfl) p 0).set19 p 0, ?_, ?_, ?_, ?_, fun k hk => ?_, ?_, ?_, fun i hi => ?_⟩, fun g R U q => ?_⟩
      · rw [xs_u, upd2_u, y2]
      · rw [xs_f (by omega), y3, xs_f (by omega)]
      · rw [upd2_u, b19, back]
      · rw [xs_f (by omega)] at y5 ⊢
        exact y5
      · rw [xs_f (by omega), (keep k hk).2]
      · show v1 2 = v 2
        rw [y7]; rfl
      · show v1 3 = v 3
        rw [y8]; rfl
      · exact rows i hi
      · rw [show g + (k + 1) = (g + 1) + k by omega]
        refine t5 (g + 1) R U ?_
        refine ⟨p, j1, by omega, hp, t3, t1, t2, fun _ => ⟨upd2 v1 19 p 0, fun z => absurd z q0, fun _ => rfl, q.1, q.2⟩, fun z => absurd z q0⟩
  · rw [if_neg q1, if_neg q2, if_neg q3] at hb'; exact absurd hb' (by decide)
theorem SA_all (nn : Nat) : ∀ n, SA nn n := by
  intro n
  induction n with
  | zero => intro c h v σ p hp hR h7 hc hcn hb; omega
  | succ n ih => exact SA_of ih
theorem cnt0_0 : ∀ n, cnt0 (fun _ => 0) n = n := by
  intro n
  induction n with
  | zero => rfl
  | succ n ih => simp only [cnt0, ih, if_true]
theorem m_bs_lt {μ : MS} {p : Nat} : m_bs μ p < 1 ↔ ¬ m_bs μ p = 1 := by
  simp only [m_bs]
  (repeat' split) <;> decide
/-- one plugin started from rest -/
theorem RZ.startP {n c : Nat} {μ : MS} {σ : XS} (h : RZ n c μ σ) {p : Nat} (hp : p < 8) : ∃ c' U, m_stOK μ p (x_startP 9 σ p).1 U ∧ RZ n c' U (x_startP 9 σ p).2 ∧ c' + aN (σ.1 1) 8 = c + aN ((x_startP 9 σ p).2.1 1) 8 := by
  obtain ⟨hR, z7, z8, z19⟩ := id h
  have h7 : σ.1 7 = μ 19 := by rw [z7, z19]
  by_cases hb : m_bs μ p = 1
  · obtain ⟨k, c', v', s1, r1⟩ := SA_all n 9 c 0 μ σ p hp hR h7 (by rw [z7, cnt0_0]) (by rw [z7, cnt0_0]; omega) hb
    obtain ⟨y1, y2, y3, y4, y5, y6, y7, y8, y9⟩ := s1
    refine ⟨c', v', ⟨fun z => absurd hb (m_bs_lt.mp z), fun _ => ⟨1 + k, r1 1 _ _ ⟨fun _ => ⟨rfl, rfl⟩, fun h' z => by omega⟩⟩⟩, ⟨y1, ?_, ?_, ?_⟩, y5⟩
    · rw [y2, y4, z19]
    · rw [y3, z8]
    · rw [y4, z19]
  · rw [x_startP_bs hR h7 hb]
    exact ⟨c, μ, ⟨fun _ => ⟨rfl, rfl⟩, fun z => absurd (m_bs_lt.mpr hb) z⟩, h, rfl⟩
theorem RZ.start {n c : Nat} {μ : MS} {σ : XS} (h : RZ n c μ σ) (x : Int32) : ∃ c' U, ((inR x 0 7 = true → m_stOK μ (pn x) (x_start σ x).1 U) ∧ (¬ inR x 0 7 = true → (x_start σ x).1 = -1 ∧ U = μ)) ∧ RZ n c' U (x_start σ x).2 ∧ c' ≤ c + 8 := by
  simp only [x_start, in8_R]
  by_cases q : inR x 0 7 = true
  · rw [if_pos q]
    obtain ⟨i, hi, rfl⟩ := inR07_of q
    rw [pn_nI (by omega)]
    obtain ⟨c', U, h1, h2, h3⟩ := h.startP hi
    have := aN_le ((x_startP 9 σ i).2.1 1) 8
    exact ⟨c', U, ⟨fun _ => h1, fun z => absurd q z⟩, h2, by omega⟩
  · rw [if_neg q]
    exact ⟨c, μ, ⟨fun z => absurd z q, fun _ => ⟨rfl, rfl⟩⟩, h, by omega⟩
theorem RZ.startAll {n c : Nat} {μ : MS} {σ : XS} (h : RZ n c μ σ) : ∃ (c' : Nat) (ff : Nat → Int32) (SS : Nat → MS), SS 0 = μ ∧ (∀ i, i < 8 → (¬ SS i 1 i = 0 → m_stOK (SS i) i (ff i) (SS (i + 1))) ∧ (SS i 1 i = 0 → SS (i + 1) = SS i)) ∧ RZ n c' (SS 8) (x_allL σ 8) ∧ cntX (x_allL σ 8) 8 = m_cnt (SS 8) 8 ∧ c' ≤ c + 8 := by
  have key : ∀ m, m ≤ 8 → ∃ (c' : Nat) (ff : Nat → Int32) (SS : Nat → MS), SS 0 = μ ∧ (∀ i, i < m → (¬ SS i 1 i = 0 → m_stOK (SS i) i (ff i) (SS (i + 1))) ∧ (SS i 1 i = 0 → SS (i + 1) = SS i)) ∧ RZ n c' (SS m) (x_allL σ m) ∧ c' + aN (σ.1 1) 8 = c + aN ((x_allL σ m).1 1) 8 := by
    intro m
    induction m with
    | zero => intro _; exact ⟨c, fun _ => 0, fun _ => μ, rfl, fun i hi => by omega, h, rfl⟩
    | succ m ih =>
      intro hm
      obtain ⟨c1, ff, SS, g0, g1, g2, g3⟩ := ih (by omega)
      obtain ⟨c2, U, k1, k2, k3⟩ := g2.startP (p := m) (by omega)
      refine ⟨c2, fun i => if i = m then (x_startP 9 (x_allL σ m) m).1 else ff i, fun i => if i ≤ m then SS i else U, by simp [g0], fun i hi => ?_, ?_, ?_⟩
      · by_cases q : i = m
        · subst q
          simp only [Nat.le_refl, if_true, if_neg (show ¬ i + 1 ≤ i by omega)]
          refine ⟨fun _ => k1, fun z => ?_⟩
          have hb : ¬ m_bs (SS i) i = 1 := by simp only [m_bs, if_pos z]; decide
          exact (k1.1 (m_bs_lt.mpr hb)).2
        · simp only [if_neg q, if_pos (show i ≤ m by omega), if_pos (show i + 1 ≤ m by omega)]
          exact g1 i (by omega)
      · dsimp only
        rw [if_neg (show ¬ m + 1 ≤ m by omega)]
        exact k2
      · simp only [x_allL]
        omega
  obtain ⟨c', ff, SS, g0, g1, g2, g3⟩ := key 8 (Nat.le_refl 8)
  have := aN_le ((x_allL σ 8).1 1) 8
  exact ⟨c', ff, SS, g0, g1, g2, cnt_same g2.1.p1 8, by omega⟩
