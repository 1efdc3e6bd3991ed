/-! worlds as functions of a state: cells 0 .. N-1 at the addresses ad 0 .. ad (N-1), cell k holds E k -/
section KW
def kw_W (N : Nat) (ad : Nat → Nat) (E : Nat → va_E) : va_W := (List.range N).map (fun k => (ad k, E k))
theorem kw_get {N : Nat} {ad : Nat → Nat} {E : Nat → va_E} {k : Nat} (h : k < N) : (kw_W N ad E)[k]? = some (ad k, E k) := by
  simp [kw_W, h]
theorem kw_of {N : Nat} {ad : Nat → Nat} {E : Nat → va_E} {k : Nat} {q : Nat × va_E} (h : (kw_W N ad E)[k]? = some q) : k < N ∧ q = (ad k, E k) := by
  have hl : k < N := by simpa [kw_W] using (List.getElem?_eq_some_iff.mp h).1
  rw [kw_get hl] at h
  exact ⟨hl, (Option.some.inj h).symm⟩
theorem kw_set {N : Nat} {ad : Nat → Nat} {E E' : Nat → va_E} {k : Nat} {e : va_E} (h : k < N) (h1 : E' k = e) (h2 : ∀ i, i < N → i ≠ k → E' i = E i) : (kw_W N ad E).set k (ad k, e) = kw_W N ad E' := by
  apply List.ext_getElem?
  intro i
  by_cases hi : i < N
  · by_cases hk : i = k
    · subst hk
      rw [List.getElem?_set_self (by simpa [kw_W] using hi), kw_get hi, h1]
    · rw [List.getElem?_set_ne (Ne.symm hk), kw_get hi, kw_get hi, h2 i hi hk]
  · rw [List.getElem?_eq_none (by simp [kw_W]; omega), List.getElem?_eq_none (by simp [kw_W]; omega)]
def kw_J (N : Nat) (ad : Nat → Nat) : Prop := ∀ i j, i < N → j < N → ad i = ad j → i = j
def kw_A (N : Nat) (ad : Nat → Nat) (sz : Nat) : Nat → Prop := fun q => (∃ k, k < N ∧ q = ad k) ∨ sz ≤ q
theorem kw_A_mono {N : Nat} {ad : Nat → Nat} {sz sz' : Nat} (h : sz ≤ sz') : ∀ q, kw_A N ad sz' q → kw_A N ad sz q := fun q hq => hq.elim Or.inl (fun h1 => Or.inr (Nat.le_trans h h1))
theorem kw_D {N : Nat} {ad : Nat → Nat} {E : Nat → va_E} {A : Nat → Prop} (hJ : kw_J N ad) (hA : ∀ k, k < N → A (ad k)) : va_D A (kw_W N ad E) := by
  refine ⟨fun i j p q hi hj h => ?_, fun k q hk => ?_⟩
  · obtain ⟨h1, rfl⟩ := kw_of hi
    obtain ⟨h2, rfl⟩ := kw_of hj
    exact hJ i j h1 h2 h
  · obtain ⟨h1, rfl⟩ := kw_of hk
    exact hA k h1
theorem kw_DA {N : Nat} {ad : Nat → Nat} {E : Nat → va_E} (hJ : kw_J N ad) (sz : Nat) : va_D (kw_A N ad sz) (kw_W N ad E) := kw_D hJ (fun k hk => Or.inl ⟨k, hk, rfl⟩)
/-- the table of primes -/
def kx_tbl : Nat → Int32 := fun j => ([2, 3, 5, 7, 11, 13, 17, 19, 23, 29, 31, 37] : List Int32).getD j 0
def kx_Z (A : Nat → Prop) (U : State) (H : Heap) : Prop := ∃ t : Nat, va_Z "PluginBoundary" "PRIMES" "[I" (.ref t) A U H ∧ va_T .int t 12 (fun j => .int (kx_tbl j)) A U H
theorem kx_Z.moved {A : Nat → Prop} {u U : State} {H : Heap} (hvm : u.vm.Alike U.vm) (h : kx_Z A u H) : kx_Z A U H := by
  obtain ⟨t, h1, h2⟩ := h
  exact ⟨t, h1.moved hvm, h2.moved hvm⟩
theorem kx_Z.kept {A : Nat → Prop} {U : State} {H H1 : Heap} (h : kx_Z A U H) (hq : ∀ a : Nat, a < H.size → ¬ A a → H1[a]? = H[a]?) : kx_Z A U H1 := by
  obtain ⟨t, h1, h2⟩ := h
  exact ⟨t, h1.kept hq, h2.kept hq⟩
theorem kx_Z.narrow {A B : Nat → Prop} {U : State} {H : Heap} (h : kx_Z A U H) (hAB : ∀ q, B q → A q) : kx_Z B U H := by
  obtain ⟨t, h1, h2⟩ := h
  exact ⟨t, h1.narrow hAB, h2.narrow hAB⟩
def kx_Met {S : Type} (l : Launch) (y : MethodName) (ws : List Cond) (rm : Room) (D : va_G) (tys : List (ClassId × FieldType)) (N : Nat) (ad : Nat → Nat) (Ef : S → Nat → va_E) (σ : S) (av : List Value) (post : Option Value → S → Prop) : Prop :=
  ∀ sz : Nat, Met l y ws rm (va_Pc av (fun U => U.heap.size = sz ∧ va_P D classes (kw_W N ad (Ef σ)) U.heap ∧ va_K D classes tys U ∧ kx_Z (kw_A N ad sz) U U.heap))
    (fun _ st oc t => (∃ (r : Option Value) (u : S), oc = .returned r ∧ post r u ∧ va_P D classes (kw_W N ad (Ef u)) t.heap) ∧ va_F (kw_A N ad sz) st t) 0 0 (kw_A N ad sz)
def kx_Q {S : Type} (below : List Frame) (D : va_G) (N : Nat) (ad : Nat → Nat) (Ef : S → Nat → va_E) (post : Option Value → S → Prop) (args : Array Value) (s : State) : State → Prop :=
  MQ below (fun _ st oc t => (∃ (r : Option Value) (u : S), oc = .returned r ∧ post r u ∧ va_P D classes (kw_W N ad (Ef u)) t.heap) ∧ va_F (kw_A N ad s.heap.size) st t) args s 0 0 (kw_A N ad s.heap.size)
/-- what stands all through a method's walk -/
def kx_C (p : Program) (s : State) (m : MethodId) (args : Array Value) (meth : Method) (c : Code) (cc : ByteArray) (ret : Option FieldType) (maxL : Nat) (own : String) (D : va_G) (tys : List (ClassId × FieldType)) (N : Nat) (ad : Nat → Nat) : Prop :=
  p.tables.exec = Jvm.exec ∧ c.code = cc ∧ meth.sig.returnType = ret ∧ c.maxLocals = maxL ∧ s.vm.findClass own = some m.cls ∧ (∀ w ∈ kw_T, w.before args s = true) ∧ meth.locks = false ∧ va_K D classes tys s ∧ kw_J N ad ∧ kx_Z (kw_A N ad s.heap.size) s s.heap
theorem kx_of {S : Type} {l : Launch} {y : MethodName} {rm : Room} {D : va_G} {tys : List (ClassId × FieldType)} {N : Nat} {ad : Nat → Nat} {Ef : S → Nat → va_E} {σ : S} {av : List Value} {post : Option Value → S → Prop} {cc : ByteArray} {maxL : Nat} {ret : Option FieldType}
    (hJ : kw_J N ad) (hy : plainName y.cls = true) (hl : (lg_sl av).length ≤ maxL)
    (body : ∀ (p : Program) (e : Env) (s : State) (m : MethodId) (args : Array Value) (below : List Frame) (meth : Method) (c : Code), kx_C p s m args meth c cc ret maxL y.cls D tys N ad → ∀ ls : Array Slot, lv_has ls maxL (lv_args 0 av) → va_P D classes (kw_W N ad (Ef σ)) s.heap → va_S (kw_A N ad s.heap.size) s.heap s.heap [] →
      W p l e rm s m args below meth c s.heap [] 0 0 (kx_Q below D N ad Ef post args s) (F0 m 0 ls [])) : kx_Met l y (.code y cc maxL ret :: kw_T) rm D tys N ad Ef σ av post := by
  intro sz
  refine Met.ofW (cc := cc) (maxL := maxL) (ret := ret) hy rfl ?_
  intro p e s m args below meth c s₁ B hml hv
  obtain ⟨rfl, hsz, hP, hK, hZ⟩ := hv
  subst hsz
  have hts := atoms_spec (ws := .code y cc maxL ret :: kw_T) B.pre
  have hl' := lv_entry av (n := maxL) hl
  rw [lg_entry_eq]
  generalize (lg_sl av ++ List.replicate (maxL - (lg_sl av).length) Slot.unset).toArray = ls at hl' ⊢
  exact body p e s m _ below meth c ⟨B.exec, B.bytes, B.returns, hml, findClass_of_methodNamed B.named, fun w hw => hts w (List.mem_cons_of_mem _ hw), B.notSynchronized, hK, hJ, hZ⟩ ls hl' hP va_S.rf
theorem kx_good {y : MethodName} {bytes : ByteArray} {mL : Nat} {rt : Option FieldType} (w5 : Cond.code y bytes mL rt ∈ kw_T) : GoodIn kw_T (Cond.code y bytes mL rt :: kw_T) := fun w hw => by
  rcases List.mem_cons.mp hw with rfl | h
  · exact ⟨w5, good_of_word (kw_T_good _ w5)⟩
  · exact ⟨h, good_of_word (kw_T_good _ h)⟩
theorem kx_good4 {a b c d : Cond} {ws : List Cond} (ha : a ∈ kw_T) (hb : b ∈ kw_T) (hc : c ∈ kw_T) (hd : d ∈ kw_T) (h : GoodIn kw_T ws) : GoodIn kw_T (([a, b, c, d] : List Cond) ++ ws) := fun w hw => by
  rcases List.mem_append.mp hw with h1 | h1
  · have h2 : w ∈ kw_T := by
      rcases List.mem_cons.mp h1 with rfl | h1
      · exact ha
      rcases List.mem_cons.mp h1 with rfl | h1
      · exact hb
      rcases List.mem_cons.mp h1 with rfl | h1
      · exact hc
      rcases List.mem_cons.mp h1 with rfl | h1
      · exact hd
      · cases h1
    exact ⟨h2, good_of_word (kw_T_good _ h2)⟩
  · exact h w h1
theorem kx_good3 {a b c : Cond} {ws : List Cond} (ha : a ∈ kw_T) (hb : b ∈ kw_T) (hc : c ∈ kw_T) (h : GoodIn kw_T ws) : GoodIn kw_T (([a, b, c] : List Cond) ++ ws) := fun w hw => by
  rcases List.mem_append.mp hw with h1 | h1
  · have h2 : w ∈ kw_T := by
      rcases List.mem_cons.mp h1 with rfl | h1
      · exact ha
      rcases List.mem_cons.mp h1 with rfl | h1
      · exact hb
      rcases List.mem_cons.mp h1 with rfl | h1
      · exact hc
      · cases h1
    exact ⟨h2, good_of_word (kw_T_good _ h2)⟩
  · exact h w h1
end KW
section KX
variable {p : Program} {l : Launch} {e : Env} {R : Room} {s : State} {m : MethodId} {args : Array Value} {below : List Frame} {meth : Method} {c : Code} {H : Heap} {locs : List Loc} {Q : State → Prop}
variable {cc : ByteArray} {ret : Option FieldType} {maxL : Nat} {own : String} {D : va_G} {tys : List (ClassId × FieldType)} {N : Nat} {ad : Nat → Nat} {pc : Nat} {ls : Array Slot} {rest : List Value}
theorem kx_iret {S : Type} {Ef : S → Nat → va_E} {post : Option Value → S → Prop} {σ' : S} {v : Int32} (C0 : kx_C p s m args meth c cc (some .int) maxL own D tys N ad) (hP : va_P D classes (kw_W N ad (Ef σ')) H) (hS : va_S (kw_A N ad s.heap.size) s.heap H locs) (hdg : decode cc pc = .ok (.ireturn, 1)) (hp : post (some (.int v)) σ') :
    W p l e R s m args below meth c H locs 0 0 (kx_Q below D N ad Ef post args s) (F0 m pc ls [.int v]) := by
  obtain ⟨hx, hb, hr, hml, hown, hts, hlk, hK, hJ, hZ⟩ := C0
  exact W.iret hx hb hr (fun t ht hW => ⟨⟨_, σ', rfl, hp, by rw [ht]; exact hP⟩, hS.F ht⟩) hS.2.2 hdg hlk
theorem kx_nar {v : Int32} (h : v = 0 ∨ v = 1) : narrow .boolean (.int v) = .int v := by
  rcases h with rfl | rfl <;> rfl
theorem kx_zret {S : Type} {Ef : S → Nat → va_E} {post : Option Value → S → Prop} {σ' : S} {v : Int32} (C0 : kx_C p s m args meth c cc (some .boolean) maxL own D tys N ad) (hv : v = 0 ∨ v = 1) (hP : va_P D classes (kw_W N ad (Ef σ')) H) (hS : va_S (kw_A N ad s.heap.size) s.heap H locs) (hdg : decode cc pc = .ok (.ireturn, 1)) (hp : post (some (.int v)) σ') :
    W p l e R s m args below meth c H locs 0 0 (kx_Q below D N ad Ef post args s) (F0 m pc ls [.int v]) := by
  obtain ⟨hx, hb, hr, hml, hown, hts, hlk, hK, hJ, hZ⟩ := C0
  exact W.zret hx hb hr (kx_nar hv) (fun t ht hW => ⟨⟨_, σ', rfl, hp, by rw [ht]; exact hP⟩, hS.F ht⟩) hS.2.2 hdg hlk
theorem kx_vret {S : Type} {Ef : S → Nat → va_E} {post : Option Value → S → Prop} {σ' : S} (C0 : kx_C p s m args meth c cc none maxL own D tys N ad) (hP : va_P D classes (kw_W N ad (Ef σ')) H) (hS : va_S (kw_A N ad s.heap.size) s.heap H locs) (hdg : decode cc pc = .ok (.return_, 1)) (hp : post none σ') :
    W p l e R s m args below meth c H locs 0 0 (kx_Q below D N ad Ef post args s) (F0 m pc ls []) := by
  obtain ⟨hx, hb, hr, hml, hown, hts, hlk, hK, hJ, hZ⟩ := C0
  exact W.vret hx hb hr (fun t ht hW => ⟨⟨_, σ', rfl, hp, by rw [ht]; exact hP⟩, hS.F ht⟩) hS.2.2 hdg hlk
theorem kx_aret {S : Type} {Ef : S → Nat → va_E} {post : Option Value → S → Prop} {σ' : S} {r : Option Nat} {nm : String} (C0 : kx_C p s m args meth c cc (some (.object nm)) maxL own D tys N ad) (hP : va_P D classes (kw_W N ad (Ef σ')) H) (hS : va_S (kw_A N ad s.heap.size) s.heap H locs) (hdg : decode cc pc = .ok (.areturn, 1)) (hp : post (some (va_rf r)) σ') :
    W p l e R s m args below meth c H locs 0 0 (kx_Q below D N ad Ef post args s) (F0 m pc ls [va_rf r]) := by
  obtain ⟨hx, hb, hr, hml, hown, hts, hlk, hK, hJ, hZ⟩ := C0
  exact W.aret hx hb hr (Or.inl ⟨_, rfl⟩) (va_rf_or _) (fun t ht hW => ⟨⟨_, σ', rfl, hp, by rw [ht]; exact hP⟩, hS.F ht⟩) hS.2.2 hdg hlk
theorem kx_dret {S : Type} {Ef : S → Nat → va_E} {post : Option Value → S → Prop} {σ' : S} {v : UInt64} (C0 : kx_C p s m args meth c cc (some .double) maxL own D tys N ad) (hP : va_P D classes (kw_W N ad (Ef σ')) H) (hS : va_S (kw_A N ad s.heap.size) s.heap H locs) (hdg : decode cc pc = .ok (.dreturn, 1)) (hp : post (some (.double v)) σ') :
    W p l e R s m args below meth c H locs 0 0 (kx_Q below D N ad Ef post args s) (F0 m pc ls [.double v]) := by
  obtain ⟨hx, hb, hr, hml, hown, hts, hlk, hK, hJ, hZ⟩ := C0
  exact W.dret hx hb hr (fun t ht hW => ⟨⟨_, σ', rfl, hp, by rw [ht]; exact hP⟩, hS.F ht⟩) hS.2.2 hdg hlk
/-- behind a call: the callee's world, whole -/
theorem kx_cont {S : Type} {Ef : S → Nat → va_E} {post : Option Value → S → Prop} {st0 : List Value} (hr : va_Run p l e R s m args below meth c H locs 0 0 0 0 (F0 m pc ls st0) rest (fun st oc t => (∃ (r : Option Value) (u : S), oc = .returned r ∧ post r u ∧ va_P D classes (kw_W N ad (Ef u)) t.heap) ∧ va_F (kw_A N ad H.size) st t) (kw_A N ad H.size))
    (hS : va_S (kw_A N ad s.heap.size) s.heap H locs) (kk : ∀ (r : Option Value) (u : S) (H : Heap) (locs : List Loc), post r u → va_P D classes (kw_W N ad (Ef u)) H → va_S (kw_A N ad s.heap.size) s.heap H locs → W p l e R s m args below meth c H locs 0 0 Q (F0 m (pc + 3) ls (r.toList ++ rest))) :
    W p l e R s m args below meth c H locs 0 0 Q (F0 m pc ls st0) := by
  intro T hT X
  obtain ⟨v, st₀, t, T', L, h0, X', hL, e1, e2, ⟨⟨r, u, hv, hp, hb⟩, hz, hk⟩, st⟩ := hr T hT X
  cases hv
  rw [h0] at hz hk
  have mono := kw_A_mono (N := N) (ad := ad) hS.1
  obtain ⟨t2, a1, b1⟩ := kk v u T'.heap (locs ++ L) hp (by rw [e1]; exact hb)
    ⟨Nat.le_trans hS.1 (by rw [e1]; exact hz), fun q h1 h2 => by rw [e1, hk q (Nat.lt_of_lt_of_le h1 hS.1) (fun z => h2 (mono q z))]; exact hS.2.1 q h1 h2, fun q hq => by
      rcases List.mem_append.mp hq with h | h
      · exact hS.2.2 q h
      · exact mono _ (hL q h)⟩ T' rfl X'
  exact ⟨t2, st t2 a1, b1⟩
theorem kx_blind {S : Type} {Ef : S → Nat → va_E} {σ : S} {av : List Value} {sz : Nat} : FrameBlind (va_Pc av (fun U => U.heap.size = sz ∧ va_P D classes (kw_W N ad (Ef σ)) U.heap ∧ va_K D classes tys U ∧ kx_Z (kw_A N ad sz) U U.heap)) := fun a U g mk q => by
  obtain ⟨q0, q1, qP, qK, qZ⟩ := q
  exact ⟨q0, q1, qP, va_K.moved (u := U) (U := U.calling g mk a) (Vm.Alike.refl U.vm) qK, qZ.moved (u := U) (U := U.calling g mk a) (Vm.Alike.refl U.vm)⟩
theorem kx_pre {S : Type} {Ef : S → Nat → va_E} {σ : S} {av : List Value} (C0 : kx_C p s m args meth c cc ret maxL own D tys N ad) (hP : va_P D classes (kw_W N ad (Ef σ)) H) (hS : va_S (kw_A N ad s.heap.size) s.heap H locs) (U : State) (hU : U.heap = H) (hW : s.WarmedH U.vm) :
    va_Pc av (fun U => U.heap.size = H.size ∧ va_P D classes (kw_W N ad (Ef σ)) U.heap ∧ va_K D classes tys U ∧ kx_Z (kw_A N ad H.size) U U.heap) av.toArray U := by
  obtain ⟨hx, hb, hr, hml, hown, hts, hlk, hK, hJ, hZ⟩ := C0
  refine ⟨rfl, by rw [hU], by rw [hU]; exact hP, va_K.moved hW.alike hK, ?_⟩
  rw [hU]
  exact ((hZ.kept hS.2.1).moved hW.alike).narrow (kw_A_mono hS.1)
theorem kx_callV {S : Type} {Ef : S → Nat → va_E} {σ : S} {post : Option Value → S → Prop} {y : MethodName} {bytes : ByteArray} {mL n index : Nat} {rt : Option FieldType} {rm : Room} {b : Addr} {As st0 : List Value} {C : String}
    (C0 : kx_C p s m args meth c cc ret maxL own D tys N ad) (hP : va_P D classes (kw_W N ad (Ef σ)) H) (hS : va_S (kw_A N ad s.heap.size) s.heap H locs) (hls : ls.size = maxL)
    (hM : kx_Met l y (.code y bytes mL rt :: kw_T) rm D tys N ad Ef σ (.ref b :: As) post)
    (w1 : Cond.methodLink own index y ∈ kw_T) (w2 : Cond.instanceMethod y ∈ kw_T) (w3 : Cond.selects C y y ∈ kw_T) (w4 : Cond.initialized C ∈ kw_T) (w5 : Cond.code y bytes mL rt ∈ kw_T)
    (hd : y.cls = C ∧ y.cls ≠ "java/lang/invoke/MethodHandle" ∧ y.cls ≠ "java/lang/invoke/VarHandle" ∧ (parseMethodDescriptor y.desc).map (fun d => d.parameters.length) = some n) (hR : rm.frames + 1 ≤ R.frames ∧ 8 + (mL + 11) + rm.locals ≤ R.locals) (h0 : rm.cells = 0 ∧ rm.slots = 0)
    {k ci : Nat} {fs : List Value} {T : u_T} {nf : Nat} (hk : k < N) (hE : Ef σ k = .inr (ci, fs)) (hb : b = ad k) (hc : classes[ci]? = some (C, T, nf)) (hn : As.length = n) (hst : st0 = As.reverse ++ .ref b :: rest) (hW : (rest.map fun v => v.category).sum ≤ 8) (hdg : decode cc pc = .ok (.invokevirtual index, 3))
    (kk : ∀ (r : Option Value) (u : S) (H : Heap) (locs : List Loc), post r u → va_P D classes (kw_W N ad (Ef u)) H → va_S (kw_A N ad s.heap.size) s.heap H locs → W p l e R s m args below meth c H locs 0 0 Q (F0 m (pc + 3) ls (r.toList ++ rest))) :
    W p l e R s m args below meth c H locs 0 0 Q (F0 m pc ls st0) := by
  have C1 := C0
  obtain ⟨hx, hbb, hr, hml, hown, hts, hlk, hK, hJ, hZ⟩ := C1
  subst hb
  refine kx_cont (va_runV ⟨hx, hbb, hml, hown, hts⟩ (hM H.size) (cwV (own := own) (C := C) (index := index) n hts (kx_good4 w1 w2 w3 w4 (kx_good w5)) rfl h0.1 h0.2 hd hR) ⟨kx_blind, va_recv hK hP hc (by rw [kw_get hk, hE]), fun U hU hW => kx_pre C0 hP hS U hU hW⟩ rfl hn hls hst (lv_room hW) hdg ⟨Nat.zero_le _, Nat.zero_le _⟩) hS kk
theorem kx_callS {S : Type} {Ef : S → Nat → va_E} {σ : S} {post : Option Value → S → Prop} {y : MethodName} {bytes : ByteArray} {mL n index : Nat} {rt : Option FieldType} {rm : Room} {As st0 : List Value}
    (C0 : kx_C p s m args meth c cc ret maxL own D tys N ad) (hP : va_P D classes (kw_W N ad (Ef σ)) H) (hS : va_S (kw_A N ad s.heap.size) s.heap H locs) (hls : ls.size = maxL)
    (hM : kx_Met l y (.code y bytes mL rt :: kw_T) rm D tys N ad Ef σ As post)
    (w1 : Cond.methodLink own index y ∈ kw_T) (w2 : Cond.static y ∈ kw_T) (w4 : Cond.initialized y.cls ∈ kw_T) (w5 : Cond.code y bytes mL rt ∈ kw_T)
    (hd : y.cls ≠ "java/lang/invoke/MethodHandle" ∧ y.cls ≠ "java/lang/invoke/VarHandle" ∧ (parseMethodDescriptor y.desc).map (fun d => d.parameters.length) = some n) (hR : rm.frames + 1 ≤ R.frames ∧ 8 + (mL + 11) + rm.locals ≤ R.locals) (h0 : rm.cells = 0 ∧ rm.slots = 0)
    (hn : As.length = n) (hst : st0 = As.reverse ++ rest) (hW : (rest.map fun v => v.category).sum ≤ 8) (hdg : decode cc pc = .ok (.invokestatic index, 3))
    (kk : ∀ (r : Option Value) (u : S) (H : Heap) (locs : List Loc), post r u → va_P D classes (kw_W N ad (Ef u)) H → va_S (kw_A N ad s.heap.size) s.heap H locs → W p l e R s m args below meth c H locs 0 0 Q (F0 m (pc + 3) ls (r.toList ++ rest))) :
    W p l e R s m args below meth c H locs 0 0 Q (F0 m pc ls st0) := by
  have C1 := C0
  obtain ⟨hx, hbb, hr, hml, hown, hts, hlk, hK, hJ, hZ⟩ := C1
  refine kx_cont (va_runS ⟨hx, hbb, hml, hown, hts⟩ (hM H.size) (va_cwS (own := own) (index := index) n hts (kx_good3 w1 w2 w4 (kx_good w5)) rfl h0.1 h0.2 hd hR) ⟨kx_blind, fun U hU hW => kx_pre C0 hP hS U hU hW⟩ rfl hn hls hst (lv_room hW) hdg ⟨Nat.zero_le _, Nat.zero_le _⟩) hS kk
theorem kx_get {E : Nat → va_E} (C0 : kx_C p s m args meth c cc ret maxL own D tys N ad) (hP : va_P D classes (kw_W N ad E) H) {C : String} {T : u_T} {n ci index k : Nat} {fs : List Value} {v : Value} {a : Nat} (hk : k < N) (hE : E k = .inr (ci, fs)) (ha : a = ad k) (hc : classes[ci]? = some (C, T, n)) (hin : ∀ w ∈ u_ws C T n, w ∈ kw_T) (j : Nat) (hj : j < n)
    (hl : Cond.fieldLink own index C (T j).2.1 (T j).2.2.1 ∈ kw_T) (hT : (T j).1 = C) (hv : fs[j]? = some v) (hdg : decode cc pc = .ok (.getfield index, 3))
    (kk : W p l e R s m args below meth c H locs 0 0 Q (F0 m (pc + 3) ls (v :: rest))) : W p l e R s m args below meth c H locs 0 0 Q (F0 m pc ls (.ref a :: rest)) := by
  obtain ⟨hx, hbb, hr, hml, hown, hts, hlk, hK, hJ, hZ⟩ := C0
  subst ha
  exact va_get hx hbb hts hin hown hK hP k (by rw [kw_get hk, hE]) hc j hj (hts _ hl) (fun x h => by rw [hT] at h; exact h) hv hdg kk
theorem kx_put {E E' : Nat → va_E} (C0 : kx_C p s m args meth c cc ret maxL own D tys N ad) (hP : va_P D classes (kw_W N ad E) H) (hS : va_S (kw_A N ad s.heap.size) s.heap H locs) {C : String} {T : u_T} {n ci index k : Nat} {fs : List Value} {v : Value} {a : Nat} {ty : Nat → FieldType} (hk : k < N) (hE : E k = .inr (ci, fs)) (ha : a = ad k) (hc : classes[ci]? = some (C, T, n)) (hin : ∀ w ∈ u_ws C T n, w ∈ kw_T) (hty : ∀ k, k < n → parseFieldDescriptor (T k).2.2.1 = some (ty k)) (hnm : ∀ a, a < n → ∀ b, b < n → a ≠ b → (T a).2.1 ≠ (T b).2.1) (j : Nat) (hj : j < n)
    (hl : Cond.fieldLink own index C (T j).2.1 (T j).2.2.1 ∈ kw_T) (hT : (T j).1 = C) (hfin : (T j).2.2.2 = false) (hn : narrow (ty j) v = v) (hfit : fits (ty j) v = true) (hlen : j < fs.length) (h1 : E' k = .inr (ci, fs.set j v)) (h2 : ∀ i, i < N → i ≠ k → E' i = E i) (hdg : decode cc pc = .ok (.putfield index, 3))
    (kk : ∀ (H : Heap) (locs : List Loc), va_P D classes (kw_W N ad E') H → va_S (kw_A N ad s.heap.size) s.heap H locs → W p l e R s m args below meth c H locs 0 0 Q (F0 m (pc + 3) ls rest)) : W p l e R s m args below meth c H locs 0 0 Q (F0 m pc ls (v :: .ref a :: rest)) := by
  obtain ⟨hx, hbb, hr, hml, hown, hts, hlk, hK, hJ, hZ⟩ := C0
  subst ha
  refine va_put hx hbb hts hin ty hty hnm hown hK hP (kw_DA hJ _) hS k (by rw [kw_get hk, hE]) hc j hj (hts _ hl) (fun x h => by rw [hT] at h; exact h) hfin (hty j hj) hn hfit hlen hdg (fun H1 locs1 hP1 hD1 hS1 => ?_)
  rw [kw_set hk h1 h2] at hP1
  exact kk H1 locs1 hP1 hS1
theorem kx_ild {E : Nat → va_E} (C0 : kx_C p s m args meth c cc ret maxL own D tys N ad) (hP : va_P D classes (kw_W N ad E) H) {k n t0 j a : Nat} {cA : ClassId} {f : Nat → Int32} {i : Int32} (hk : k < N) (hE : E k = .inl (cA, (n, .inl f))) (ha : a = ad k) (ht : tys[t0]? = some (cA, .int)) (hi : i = nI j) (hj : j < n) (hn : n < 2 ^ 31) (hdg : decode cc pc = .ok (.iaload, 1))
    (kk : W p l e R s m args below meth c H locs 0 0 Q (F0 m (pc + 1) ls (.int (f j) :: rest))) : W p l e R s m args below meth c H locs 0 0 Q (F0 m pc ls (.int i :: .ref a :: rest)) := by
  obtain ⟨hx, hbb, hr, hml, hown, hts, hlk, hK, hJ, hZ⟩ := C0
  subst ha hi
  refine va_iald hx hbb hK hP k t0 (by rw [kw_get hk, hE]) ht (vp_in_nI hj hn) hdg ?_
  rw [nI_clamp (by omega)]
  exact kk
theorem kx_zld {E : Nat → va_E} (C0 : kx_C p s m args meth c cc ret maxL own D tys N ad) (hP : va_P D classes (kw_W N ad E) H) {k n t0 j a : Nat} {cA : ClassId} {f : Nat → Int32} {i : Int32} (hk : k < N) (hE : E k = .inl (cA, (n, .inl f))) (ha : a = ad k) (ht : tys[t0]? = some (cA, .boolean)) (hi : i = nI j) (hj : j < n) (hn : n < 2 ^ 31) (hdg : decode cc pc = .ok (.baload, 1))
    (kk : W p l e R s m args below meth c H locs 0 0 Q (F0 m (pc + 1) ls (.int (f j) :: rest))) : W p l e R s m args below meth c H locs 0 0 Q (F0 m pc ls (.int i :: .ref a :: rest)) := by
  obtain ⟨hx, hbb, hr, hml, hown, hts, hlk, hK, hJ, hZ⟩ := C0
  subst ha hi
  refine va_zald hx hbb hK hP k t0 (by rw [kw_get hk, hE]) ht (vp_in_nI hj hn) hdg ?_
  rw [nI_clamp (by omega)]
  exact kk
theorem kx_lld {E : Nat → va_E} (C0 : kx_C p s m args meth c cc ret maxL own D tys N ad) (hP : va_P D classes (kw_W N ad E) H) {k n t0 j a : Nat} {cA : ClassId} {f : Nat → Int64} {i : Int32} (hk : k < N) (hE : E k = .inl (cA, (n, .inr (.inl f)))) (ha : a = ad k) (ht : tys[t0]? = some (cA, .long)) (hi : i = nI j) (hj : j < n) (hn : n < 2 ^ 31) (hdg : decode cc pc = .ok (.laload, 1))
    (kk : W p l e R s m args below meth c H locs 0 0 Q (F0 m (pc + 1) ls (.long (f j) :: rest))) : W p l e R s m args below meth c H locs 0 0 Q (F0 m pc ls (.int i :: .ref a :: rest)) := by
  obtain ⟨hx, hbb, hr, hml, hown, hts, hlk, hK, hJ, hZ⟩ := C0
  subst ha hi
  refine va_lald hx hbb hK hP k t0 (by rw [kw_get hk, hE]) ht (vp_in_nI hj hn) hdg ?_
  rw [nI_clamp (by omega)]
  exact kk
theorem kx_ald {E : Nat → va_E} (C0 : kx_C p s m args meth c cc ret maxL own D tys N ad) (hP : va_P D classes (kw_W N ad E) H) {k n t0 j a : Nat} {cA : ClassId} {C : String} {f : Nat → Option Nat} {i : Int32} {b : Nat} (hk : k < N) (hE : E k = .inl (cA, (n, .inr (.inr (.inr (.inr f)))))) (ha : a = ad k) (ht : tys[t0]? = some (cA, .object C)) (hi : i = nI j) (hj : j < n) (hn : n < 2 ^ 31) (hf : f j = some b) (hdg : decode cc pc = .ok (.aaload, 1))
    (kk : W p l e R s m args below meth c H locs 0 0 Q (F0 m (pc + 1) ls (.ref b :: rest))) : W p l e R s m args below meth c H locs 0 0 Q (F0 m pc ls (.int i :: .ref a :: rest)) := by
  obtain ⟨hx, hbb, hr, hml, hown, hts, hlk, hK, hJ, hZ⟩ := C0
  subst ha hi
  refine va_aldq hx hbb hK hP k t0 (by rw [kw_get hk, hE]) ht (vp_in_nI hj hn) hdg ?_
  rw [nI_clamp (by omega), hf]
  exact kk
theorem kx_ist {E E' : Nat → va_E} (C0 : kx_C p s m args meth c cc ret maxL own D tys N ad) (hP : va_P D classes (kw_W N ad E) H) (hS : va_S (kw_A N ad s.heap.size) s.heap H locs) {k n t0 j a : Nat} {cA : ClassId} {f : Nat → Int32} {i x : Int32} (hk : k < N) (hE : E k = .inl (cA, (n, .inl f))) (ha : a = ad k) (ht : tys[t0]? = some (cA, .int)) (hi : i = nI j) (hj : j < n) (hn : n < 2 ^ 31) (h1 : E' k = .inl (cA, (n, .inl (upd f j x)))) (h2 : ∀ i, i < N → i ≠ k → E' i = E i) (hdg : decode cc pc = .ok (.iastore, 1))
    (kk : ∀ (H : Heap) (locs : List Loc), va_P D classes (kw_W N ad E') H → va_S (kw_A N ad s.heap.size) s.heap H locs → W p l e R s m args below meth c H locs 0 0 Q (F0 m (pc + 1) ls rest)) : W p l e R s m args below meth c H locs 0 0 Q (F0 m pc ls (.int x :: .int i :: .ref a :: rest)) := by
  obtain ⟨hx, hbb, hr, hml, hown, hts, hlk, hK, hJ, hZ⟩ := C0
  subst ha hi
  refine va_iast hx hbb hK hP (kw_DA hJ _) hS k t0 (by rw [kw_get hk, hE]) ht (vp_in_nI hj hn) hdg (fun H1 locs1 hP1 hD1 hS1 => ?_)
  rw [nI_clamp (by omega), kw_set hk h1 h2] at hP1
  exact kk H1 locs1 hP1 hS1
theorem kx_zst {E E' : Nat → va_E} (C0 : kx_C p s m args meth c cc ret maxL own D tys N ad) (hP : va_P D classes (kw_W N ad E) H) (hS : va_S (kw_A N ad s.heap.size) s.heap H locs) {k n t0 j a : Nat} {cA : ClassId} {f : Nat → Int32} {i x : Int32} (hk : k < N) (hE : E k = .inl (cA, (n, .inl f))) (ha : a = ad k) (ht : tys[t0]? = some (cA, .boolean)) (hi : i = nI j) (hj : j < n) (hn : n < 2 ^ 31) (hx01 : x = 0 ∨ x = 1) (h1 : E' k = .inl (cA, (n, .inl (upd f j x)))) (h2 : ∀ i, i < N → i ≠ k → E' i = E i) (hdg : decode cc pc = .ok (.bastore, 1))
    (kk : ∀ (H : Heap) (locs : List Loc), va_P D classes (kw_W N ad E') H → va_S (kw_A N ad s.heap.size) s.heap H locs → W p l e R s m args below meth c H locs 0 0 Q (F0 m (pc + 1) ls rest)) : W p l e R s m args below meth c H locs 0 0 Q (F0 m pc ls (.int x :: .int i :: .ref a :: rest)) := by
  obtain ⟨hx, hbb, hr, hml, hown, hts, hlk, hK, hJ, hZ⟩ := C0
  subst ha hi
  refine va_zast hx hbb hK hP (kw_DA hJ _) hS k t0 (by rw [kw_get hk, hE]) ht (vp_in_nI hj hn) hdg (fun H1 locs1 hP1 hD1 hS1 => ?_)
  have hnx : vp_nar .boolean x = x := by rcases hx01 with rfl | rfl <;> rfl
  rw [nI_clamp (by omega), hnx, kw_set hk h1 h2] at hP1
  exact kk H1 locs1 hP1 hS1
theorem kx_lst {E E' : Nat → va_E} (C0 : kx_C p s m args meth c cc ret maxL own D tys N ad) (hP : va_P D classes (kw_W N ad E) H) (hS : va_S (kw_A N ad s.heap.size) s.heap H locs) {k n t0 j a : Nat} {cA : ClassId} {f : Nat → Int64} {i : Int32} {x : Int64} (hk : k < N) (hE : E k = .inl (cA, (n, .inr (.inl f)))) (ha : a = ad k) (ht : tys[t0]? = some (cA, .long)) (hi : i = nI j) (hj : j < n) (hn : n < 2 ^ 31) (h1 : E' k = .inl (cA, (n, .inr (.inl (vp_updL f j x))))) (h2 : ∀ i, i < N → i ≠ k → E' i = E i) (hdg : decode cc pc = .ok (.lastore, 1))
    (kk : ∀ (H : Heap) (locs : List Loc), va_P D classes (kw_W N ad E') H → va_S (kw_A N ad s.heap.size) s.heap H locs → W p l e R s m args below meth c H locs 0 0 Q (F0 m (pc + 1) ls rest)) : W p l e R s m args below meth c H locs 0 0 Q (F0 m pc ls (.long x :: .int i :: .ref a :: rest)) := by
  obtain ⟨hx, hbb, hr, hml, hown, hts, hlk, hK, hJ, hZ⟩ := C0
  subst ha hi
  refine va_last hx hbb hK hP (kw_DA hJ _) hS k t0 (by rw [kw_get hk, hE]) ht (vp_in_nI hj hn) hdg (fun H1 locs1 hP1 hD1 hS1 => ?_)
  rw [nI_clamp (by omega), kw_set hk h1 h2] at hP1
  exact kk H1 locs1 hP1 hS1
theorem kx_ast {E E' : Nat → va_E} (C0 : kx_C p s m args meth c cc ret maxL own D tys N ad) (hP : va_P D classes (kw_W N ad E) H) (hS : va_S (kw_A N ad s.heap.size) s.heap H locs) {k n t0 j a k2 ci b nf : Nat} {cA : ClassId} {f : Nat → Option Nat} {i : Int32} {fs : List Value} {C : String} {T : u_T} (hk : k < N) (hE : E k = .inl (cA, (n, .inr (.inr (.inr (.inr f)))))) (ha : a = ad k) (ht : tys[t0]? = some (cA, .object C)) (hi : i = nI j) (hj : j < n) (hn : n < 2 ^ 31) (hk2 : k2 < N) (hE2 : E k2 = .inr (ci, fs)) (hb : b = ad k2) (hc : classes[ci]? = some (C, T, nf)) (h1 : E' k = .inl (cA, (n, .inr (.inr (.inr (.inr (va_up f j (some b)))))))) (h2 : ∀ i, i < N → i ≠ k → E' i = E i) (hdg : decode cc pc = .ok (.aastore, 1))
    (kk : ∀ (H : Heap) (locs : List Loc), va_P D classes (kw_W N ad E') H → va_S (kw_A N ad s.heap.size) s.heap H locs → W p l e R s m args below meth c H locs 0 0 Q (F0 m (pc + 1) ls rest)) : W p l e R s m args below meth c H locs 0 0 Q (F0 m pc ls (.ref b :: .int i :: .ref a :: rest)) := by
  obtain ⟨hx, hbb, hr, hml, hown, hts, hlk, hK, hJ, hZ⟩ := C0
  subst ha hi hb
  refine va_astq (r := (C, T, nf)) hx hbb hK hP (kw_DA hJ _) hS k t0 k2 ci (by rw [kw_get hk, hE]) ht (by rw [kw_get hk2, hE2]) hc (vp_in_nI hj hn) hdg (fun H1 locs1 hP1 hD1 hS1 => ?_)
  rw [nI_clamp (by omega), kw_set hk h1 h2] at hP1
  exact kk H1 locs1 hP1 hS1
theorem kx_alen {E : Nat → va_E} (C0 : kx_C p s m args meth c cc ret maxL own D tys N ad) (hP : va_P D classes (kw_W N ad E) H) {k t0 a : Nat} {cA : ClassId} {x : vp_A} {ty : FieldType} {v : Int32} (hk : k < N) (hE : E k = .inl (cA, x)) (ha : a = ad k) (ht : tys[t0]? = some (cA, ty)) (hv : Int32.ofNat x.1 = v) (hdg : decode cc pc = .ok (.arraylength, 1))
    (kk : W p l e R s m args below meth c H locs 0 0 Q (F0 m (pc + 1) ls (.int v :: rest))) : W p l e R s m args below meth c H locs 0 0 Q (F0 m pc ls (.ref a :: rest)) := by
  obtain ⟨hx, hbb, hr, hml, hown, hts, hlk, hK, hJ, hZ⟩ := C0
  subst ha
  exact va_alen hx hbb hK hP k t0 (by rw [kw_get hk, hE]) ht hv hdg kk
end KX
/-- room of a method that makes nothing, h calls above the leaves -/
def kw_R (h : Nat) : Room := { frames := h, cells := 0, slots := 0, locals := 40 * h }
theorem kw_R_ok {h h' mL : Nat} (hh : h < h') (hm : mL ≤ 20) : (kw_R h).frames + 1 ≤ (kw_R h').frames ∧ 8 + (mL + 11) + (kw_R h).locals ≤ (kw_R h').locals := by
  constructor
  · show h + 1 ≤ h'
    omega
  · show 8 + (mL + 11) + 40 * h ≤ 40 * h'
    omega
