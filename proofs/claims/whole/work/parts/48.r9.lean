/-! the relation at rest, method by method -/
theorem RZ.of {n c n' c' : Nat} {μ μ' : MS} {σ σ' : XS} (h : RZ n c μ σ) (h1 : RC n' c' μ' σ') (h7 : σ'.1 7 = σ.1 7) (h8 : σ'.1 8 = σ.1 8) (h19 : μ' 19 = μ 19) : RZ n' c' μ' σ' := ⟨h1, h7.trans h.2.1, h8.trans h.2.2.1, h19.trans h.2.2.2⟩
theorem RZ.install {n c : Nat} {μ : MS} {σ : XS} (h : RZ n c μ σ) (x : Int32) : (x_install σ x).1 = (m_install μ x).1 ∧ RZ n c (m_install μ x).2 (x_install σ x).2 := by
  obtain ⟨e, g⟩ := h.1.install x
  refine ⟨e, h.of g ?_ ?_ ?_⟩
  · simp only [x_install]; split <;> rfl
  · simp only [x_install]; split <;> rfl
  · simp only [m_install]; split <;> rfl
theorem RZ.uninstall {n c : Nat} {μ : MS} {σ : XS} (h : RZ n c μ σ) (x : Int32) : (x_uninstall σ x).1 = (m_uninstall μ x).1 ∧ RZ n c (m_uninstall μ x).2 (x_uninstall σ x).2 := by
  obtain ⟨e, g⟩ := h.1.uninstall x
  refine ⟨e, h.of g ?_ ?_ ?_⟩
  · simp only [x_uninstall]
    split
    · dsimp only; rw [x_unl_f' (by omega)]; rfl
    · rfl
  · simp only [x_uninstall]
    split
    · dsimp only; rw [x_unl_f' (by omega)]; rfl
    · rfl
  · simp only [m_uninstall]
    split
    · dsimp only; rw [m_unl_f' (by omega)]; rfl
    · rfl
theorem RZ.need {n c : Nat} {μ : MS} {σ : XS} (h : RZ n c μ σ) (x1 x2 x3 : Int32) : (x_need σ x1 x2 x3).1 = (m_need μ x1 x2 x3).1 ∧ RZ n c (m_need μ x1 x2 x3).2 (x_need σ x1 x2 x3).2 := by
  obtain ⟨e, g⟩ := h.1.need x1 x2 x3
  refine ⟨e, h.of g ?_ ?_ ?_⟩
  · simp only [x_need]; (repeat' split) <;> rfl
  · simp only [x_need]; (repeat' split) <;> rfl
  · simp only [m_need]; (repeat' split) <;> rfl
theorem RZ.serve {n c : Nat} {μ : MS} {σ : XS} (h : RZ n c μ σ) (x1 x2 x3 : Int32) : (x_serve σ x1 x2 x3).1 = (m_serve μ x1 x2 x3).1 ∧ RZ n c (m_serve μ x1 x2 x3).2 (x_serve σ x1 x2 x3).2 := by
  obtain ⟨e, g⟩ := h.1.serve x1 x2 x3
  refine ⟨e, h.of g ?_ ?_ ?_⟩
  · simp only [x_serve]; split <;> rfl
  · simp only [x_serve]; split <;> rfl
  · simp only [m_serve]; split <;> rfl
theorem RZ.extend {n c : Nat} {μ : MS} {σ : XS} (h : RZ n c μ σ) (x1 x2 x3 x4 x5 : Int32) : (x_extend σ x1 x2 x3 x4 x5).1 = (m_extend μ x1 x2 x3 x4 x5).1 ∧ ∃ n', RZ n' c (m_extend μ x1 x2 x3 x4 x5).2 (x_extend σ x1 x2 x3 x4 x5).2 := by
  obtain ⟨e, n', g⟩ := h.1.extend x1 x2 x3 x4 x5
  have ep : ∀ f, f = 7 ∨ f = 8 → (x_extend σ x1 x2 x3 x4 x5).2.1 f = σ.1 f := by
    intro f hf
    simp only [x_extend]
    split
    · split
      · dsimp only
        rw [xs_f (by omega), x_put, x_putL_1]
        rcases hf with rfl | rfl <;> rfl
      · rfl
    · rfl
  refine ⟨e, n', h.of g (ep 7 (Or.inl rfl)) (ep 8 (Or.inr rfl)) ?_⟩
  simp only [m_extend]; (repeat' split) <;> rfl
theorem RZ.forgive {n c : Nat} {μ : MS} {σ : XS} (h : RZ n c μ σ) (x : Int32) : (x_forgive σ x).1 = (m_forgive μ x).1 ∧ RZ n c (m_forgive μ x).2 (x_forgive σ x).2 := by
  obtain ⟨e, g⟩ := h.1.forgive x
  refine ⟨e, h.of g ?_ ?_ ?_⟩
  · simp only [x_forgive]; split <;> rfl
  · simp only [x_forgive]; split <;> rfl
  · simp only [m_forgive]; split <;> rfl
theorem RZ.ok {n c : Nat} {μ : MS} {σ : XS} (h : RZ n c μ σ) : x_ok σ := ⟨h.1.od.lt, h.1.px⟩
/-- both at first -/
theorem RZ.init : RZ 0 0 (fun _ _ => 0) σ0 := by
  refine ⟨⟨rfl, rfl, rfl, rfl, rfl, fun k hk => ⟨0, 0, by omega, by omega, rfl, rfl, by decide +kernel⟩, by omega, rfl, rfl, rfl, rfl, fun k hk z => absurd z (show ¬ (0 : Int32) = 2 by decide), fun e he => ⟨fun z => absurd rfl z, fun z => absurd z.1 (Nat.not_lt_zero _)⟩, fun e he z => absurd rfl z, fun e he => ⟨0, by omega, rfl⟩, fun e he => Or.inr ⟨0, by omega, rfl⟩, rfl, rfl, rfl, rfl, rfl, rfl, fun e he => absurd he (Nat.not_lt_zero _), fun e he => ⟨0, by omega, rfl, by simp⟩, rfl, rfl, rfl, rfl, rfl, fun i hi => ⟨rfl, rfl, rfl⟩, ?_⟩, rfl, rfl, rfl⟩
  exact ⟨fun w => rfl, fun k _ _ => rfl, fun k hk => hk, fun k hk => absurd hk (Nat.not_lt_zero _), fun a b _ hb => absurd hb (Nat.not_lt_zero _)⟩
