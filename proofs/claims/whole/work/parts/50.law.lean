/-! the law: what stands at its entry -/
theorem kl_arr {args : Array Value} {s : State} {ty : FieldType} (h : (Cond.arrayClass ty).before args s = true) : ∃ cA, ArrOfT s cA ty ∧ s.vm.findClass ("[" ++ ty.toString) = some cA := by
  obtain ⟨cA, k, comp, h1, h2, h3⟩ := Cond.arrayClass_spec h
  exact ⟨cA, fun n z => ⟨fun k9 h9 => (by cases h9), k, h2, comp, h3⟩, h1⟩
theorem kl_arrO {args : Array Value} {s : State} {C : String} (h : (Cond.arrayOver (.object C)).before args s = true) : ∃ cA, ArrOfT s cA (.object C) ∧ va_RA s cA (.object C) := by
  obtain ⟨comp, cA, k, h1, h2, h3, h4, h5⟩ := Cond.arrayOver_spec h
  exact ⟨cA, fun n z => ⟨fun k9 h9 => (by cases h9), k, h3, comp, h4⟩, k, comp, h3, h4, h1, h5⟩
theorem kl_K {args : Array Value} {s : State} (hts : ∀ w ∈ lw_tbl, w.before args s = true) : ∃ (D : va_G) (cA : Nat → ClassId), va_K D classes (kx_tys cA) s := by
  have hT : ∀ w ∈ kw_T, w.before args s = true := fun w h => hts w (kw_T_in w h)
  obtain ⟨c0, i0, k0⟩ := u_known hT inE (hT _ wl_75)
  obtain ⟨c1, i1, k1⟩ := u_known hT inH (hT _ wl_20)
  obtain ⟨c2, i2, k2⟩ := u_known hT inP (hT _ wl_37)
  obtain ⟨c3, i3, k3⟩ := u_known hT inX (hT _ wl_8)
  obtain ⟨c4, i4, k4⟩ := u_known hT inM (hT _ wl_346)
  obtain ⟨a0, b0, d0⟩ := kl_arr (hT _ wl_36)
  obtain ⟨a1, b1, d1⟩ := kl_arr (hT _ wl_439)
  obtain ⟨a2, b2, d2⟩ := kl_arr (hT _ wl_440)
  obtain ⟨a3, b3, d3⟩ := kl_arrO (hts _ wl_16)
  obtain ⟨a4, b4, d4⟩ := kl_arrO (hts _ wl_18)
  refine ⟨(fun c => if c = 0 then c0 else if c = 1 then c1 else if c = 2 then c2 else if c = 3 then c3 else c4, fun c => if c = 0 then i0 else if c = 1 then i1 else if c = 2 then i2 else if c = 3 then i3 else i4), fun k => if k = 0 then a0 else if k = 1 then a1 else if k = 2 then a2 else if k = 3 then a3 else a4, fun c q hq => ?_, fun k q hq => ?_⟩
  · rcases c with _ | _ | _ | _ | _ | c
    · cases hq; exact k0
    · cases hq; exact k1
    · cases hq; exact k2
    · cases hq; exact k3
    · cases hq; exact k4
    · cases hq
  · rcases k with _ | _ | _ | _ | _ | k
    · cases hq; exact ⟨b0, d0⟩
    · cases hq; exact ⟨b1, d1⟩
    · cases hq; exact ⟨b2, d2⟩
    · cases hq; exact ⟨b3, d3⟩
    · cases hq; exact ⟨b4, d4⟩
    · cases hq
theorem kl_Z {args : Array Value} {s : State} (hts : ∀ w ∈ lw_tbl, w.before args s = true) (hgv : (Jvm.Cond.and given_1 narrow_1).before args s = true) : kx_Z (fun q => s.heap.size ≤ q) s s.heap := by
  have hq := flat_of_before _ hgv
  have hA : ∀ a : Nat, a < s.heap.size → ¬ s.heap.size ≤ a := fun a h => by omega
  have e0 := va_eqt (hq (.eq (.length (.static "PluginBoundary" "PRIMES" "[I")) (.int 12)) (by decide +kernel))
  have g0 := va_eqt (hq (.eq (.elem (.static "PluginBoundary" "PRIMES" "[I") (.int 0)) (.int 2)) (by decide +kernel))
  have g1 := va_eqt (hq (.eq (.elem (.static "PluginBoundary" "PRIMES" "[I") (.int 1)) (.int 3)) (by decide +kernel))
  have g2 := va_eqt (hq (.eq (.elem (.static "PluginBoundary" "PRIMES" "[I") (.int 2)) (.int 5)) (by decide +kernel))
  have g3 := va_eqt (hq (.eq (.elem (.static "PluginBoundary" "PRIMES" "[I") (.int 3)) (.int 7)) (by decide +kernel))
  have g4 := va_eqt (hq (.eq (.elem (.static "PluginBoundary" "PRIMES" "[I") (.int 4)) (.int 11)) (by decide +kernel))
  have g5 := va_eqt (hq (.eq (.elem (.static "PluginBoundary" "PRIMES" "[I") (.int 5)) (.int 13)) (by decide +kernel))
  have g6 := va_eqt (hq (.eq (.elem (.static "PluginBoundary" "PRIMES" "[I") (.int 6)) (.int 17)) (by decide +kernel))
  have g7 := va_eqt (hq (.eq (.elem (.static "PluginBoundary" "PRIMES" "[I") (.int 7)) (.int 19)) (by decide +kernel))
  have g8 := va_eqt (hq (.eq (.elem (.static "PluginBoundary" "PRIMES" "[I") (.int 8)) (.int 23)) (by decide +kernel))
  have g9 := va_eqt (hq (.eq (.elem (.static "PluginBoundary" "PRIMES" "[I") (.int 9)) (.int 29)) (by decide +kernel))
  have g10 := va_eqt (hq (.eq (.elem (.static "PluginBoundary" "PRIMES" "[I") (.int 10)) (.int 31)) (by decide +kernel))
  have g11 := va_eqt (hq (.eq (.elem (.static "PluginBoundary" "PRIMES" "[I") (.int 11)) (.int 37)) (by decide +kernel))
  obtain ⟨t, h1, h2⟩ := va_Tof (N := 12) (f := fun j => .int (kx_tbl j)) (A := fun q => s.heap.size ≤ q) (by omega) (hq (.arrayOf (.static "PluginBoundary" "PRIMES" "[I") .int) (by decide +kernel)) e0 (fun j hj => by
    rcases (show j = 0 ∨ j = 1 ∨ j = 2 ∨ j = 3 ∨ j = 4 ∨ j = 5 ∨ j = 6 ∨ j = 7 ∨ j = 8 ∨ j = 9 ∨ j = 10 ∨ j = 11 by omega) with rfl | rfl | rfl | rfl | rfl | rfl | rfl | rfl | rfl | rfl | rfl | rfl
    · exact g0
    · exact g1
    · exact g2
    · exact g3
    · exact g4
    · exact g5
    · exact g6
    · exact g7
    · exact g8
    · exact g9
    · exact g10
    · exact g11) hA
  exact ⟨t, va_Zref (hts _ wl_275) (hts _ (kw_T_in _ wl_1)) h1 hA, h2⟩
section KL
variable {p : Program} {l : Launch} {e : Env} {R : Room} {s : State} {m : MethodId} {args : Array Value} {below : List Frame} {meth : Method} {c : Code} {H : Heap} {locs : List Loc} {Q : State → Prop} {cells slots : Nat}
variable {cc : ByteArray} {maxL : Nat} {own : String} {D : va_G} {tys : List (ClassId × FieldType)} {N : Nat} {ad : Nat → Nat} {pc : Nat} {ls : Array Slot} {rest : List Value} {A : Nat → Prop}
/-- a call into one of two worlds: the other one stays -/
theorem kl_call {S : Type} {Ef : S → Nat → va_E} {σ σ1 : S} {v : Value} {w2 : va_W} {y : MethodName} {bytes : ByteArray} {mL n index : Nat} {rt : Option FieldType} {rm : Room} {b : Addr} {As st0 : List Value} {C : String} (hx : p.tables.exec = Jvm.exec) (hbb : c.code = cc) (hml : c.maxLocals = maxL) (hown : s.vm.findClass own = some m.cls) (hts : ∀ w ∈ kw_T, w.before args s = true) (hK : va_K D classes tys s) (hZ : kx_Z A s s.heap) (hA : ∀ q, s.heap.size ≤ q → A q)
    (hJ : kw_J N ad) (hAk : ∀ k, k < N → A (ad k)) (hP : va_P D classes (kw_W N ad (Ef σ)) H) (hP2 : va_P D classes w2 H) (hap : ∀ (k : Nat) (q : Nat × va_E), w2[k]? = some q → ∀ i, i < N → ¬ q.1 = ad i) (hS : va_S A s.heap H locs) (hls : ls.size = maxL)
    (hM : kx_Met l y (.code y bytes mL rt :: kw_T) rm D tys N ad Ef σ (.ref b :: As) (fun r u => r = some v ∧ σ1 = u))
    (w1 : Cond.methodLink own index y ∈ kw_T) (w2' : Cond.instanceMethod y ∈ kw_T) (w3 : Cond.selects C y y ∈ kw_T) (w4 : Cond.initialized C ∈ kw_T) (w5 : Cond.code y bytes mL rt ∈ kw_T)
    (hd : y.cls = C ∧ y.cls ≠ "java/lang/invoke/MethodHandle" ∧ y.cls ≠ "java/lang/invoke/VarHandle" ∧ (parseMethodDescriptor y.desc).map (fun d => d.parameters.length) = some n) (hR : rm.frames + 1 ≤ R.frames ∧ 8 + (mL + 11) + rm.locals ≤ R.locals) (h0 : rm.cells = 0 ∧ rm.slots = 0)
    {k ci : Nat} {fs : List Value} {T : u_T} {nf : Nat} (hk : k < N) (hE : Ef σ k = .inr (ci, fs)) (hb : b = ad k) (hc : classes[ci]? = some (C, T, nf)) (hn : As.length = n) (hst : st0 = As.reverse ++ .ref b :: rest) (hW : (rest.map fun v => v.category).sum ≤ 8) (hdg : decode cc pc = .ok (.invokevirtual index, 3)) (hcl : cells ≤ R.cells ∧ slots ≤ R.slots)
    (kk : ∀ (H : Heap) (locs : List Loc), va_P D classes (kw_W N ad (Ef σ1)) H → va_P D classes w2 H → va_S A s.heap H locs → W p l e R s m args below meth c H locs cells slots Q (F0 m (pc + 3) ls (v :: rest))) :
    W p l e R s m args below meth c H locs cells slots Q (F0 m pc ls st0) := by
  subst hb
  have hsub : ∀ q, kw_A N ad H.size q → A q := fun q h => h.elim (fun ⟨k, hk, e⟩ => e ▸ hAk k hk) (fun h => hA q (Nat.le_trans hS.1 h))
  have hpre : ∀ U : State, U.heap = H → s.WarmedH U.vm → va_Pc (.ref (ad k) :: As) (fun U => U.heap.size = H.size ∧ va_P D classes (kw_W N ad (Ef σ)) U.heap ∧ va_K D classes tys U ∧ kx_Z (kw_A N ad H.size) U U.heap) (Value.ref (ad k) :: As).toArray U := fun U hU hW => by
    refine ⟨rfl, by rw [hU], by rw [hU]; exact hP, va_K.moved hW.alike hK, ?_⟩
    rw [hU]
    exact ((hZ.kept hS.2.1).moved hW.alike).narrow hsub
  have hrun := va_runV (g := F0 m pc ls st0) (rest := rest) (cells := cells) (slots := slots) (locs := locs) (below := below) (meth := meth) (e := e) ⟨hx, hbb, hml, hown, hts⟩ (hM H.size) (cwV (own := own) (C := C) (index := index) n hts (kx_good4 w1 w2' w3 w4 (kx_good w5)) rfl h0.1 h0.2 hd hR) ⟨kx_blind, va_recv hK hP hc (by rw [kw_get hk, hE]), hpre⟩ rfl hn hls hst (lv_room hW) hdg ⟨hcl.1, hcl.2⟩
  intro T hT X
  obtain ⟨v, st₀, t, T', L, g0, X', hL, e1, e2, ⟨⟨r, u, hv, hp, hb⟩, hz, hk⟩, st⟩ := hrun T hT X
  cases hv
  obtain ⟨rfl, rfl⟩ := hp
  rw [g0] at hz hk
  obtain ⟨t2, a1, b1⟩ := kk T'.heap (locs ++ L) (by rw [e1]; exact hb) (hP2.kept fun k q hq => by
      rw [e1]
      exact hk q.1 (hP2 k q hq).lt (fun z => z.elim (fun ⟨i, hi, e⟩ => hap k q hq i hi e) (fun z => absurd (hP2 k q hq).lt (Nat.not_lt.mpr z))))
    ⟨Nat.le_trans hS.1 (by rw [e1]; exact hz), fun q h1 h2 => by rw [e1, hk q (Nat.lt_of_lt_of_le h1 hS.1) (fun z => h2 (hsub q z))]; exact hS.2.1 q h1 h2, fun q hq => by
      rcases List.mem_append.mp hq with h | h
      · exact hS.2.2 q h
      · exact hsub _ (hL q h)⟩ T' rfl X'
  exact ⟨t2, st t2 a1, b1⟩
end KL
