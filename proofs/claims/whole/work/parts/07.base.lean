/-! calls with an answer that is known, booleans, places -/
def bI (c : Prop) [Decidable c] : Int32 := if c then 1 else 0
theorem bI_eq0 {c : Prop} [Decidable c] : bI c = 0 ↔ ¬ c := by simp only [bI]; split <;> simp_all
theorem bI_ne0 {c : Prop} [Decidable c] : ¬ bI c = 0 ↔ c := by simp only [bI]; split <;> simp_all
theorem bI_01 {c : Prop} [Decidable c] : bI c = 0 ∨ bI c = 1 := by simp only [bI]; split <;> simp
theorem bI_t {c : Prop} [Decidable c] (h : c) : bI c = 1 := if_pos h
theorem bI_f {c : Prop} [Decidable c] (h : ¬ c) : bI c = 0 := if_neg h
theorem bI_c {c d : Prop} [Decidable c] [Decidable d] (h : c ↔ d) : bI c = bI d := by simp only [bI, h]
def lo4 (x : Int32) : Nat := x.toBitVec.toNat % 16
def lo3 (x : Int32) : Nat := x.toBitVec.toNat % 8
theorem lo4_lt (x : Int32) : lo4 x < 16 := Nat.mod_lt _ (by omega)
theorem lo3_lt (x : Int32) : lo3 x < 8 := Nat.mod_lt _ (by omega)
theorem and15 (x : Int32) : x &&& 15 = nI (lo4 x) := pk_and x 4 (by decide)
theorem and7 (x : Int32) : x &&& 7 = nI (lo3 x) := pk_and x 3 (by decide)
theorem nI_le' {a b : Nat} (ha : a < 2 ^ 31) (hb : b < 2 ^ 31) : nI a ≤ nI b ↔ a ≤ b := nI_leI ha hb
theorem nI_lt' {a b : Nat} (ha : a < 2 ^ 31) (hb : b < 2 ^ 31) : nI a < nI b ↔ a < b := nI_ltI ha hb
theorem nI_eq' {a b : Nat} (ha : a < 2 ^ 31) (hb : b < 2 ^ 31) : nI a = nI b ↔ a = b := nI_eq ha hb
theorem nI_i1 (i : Nat) : nI i + Int32.ofInt 1 = nI (i + 1) := nI_1 i
/-- an int is a place below n, or it isn't -/
theorem kx_in (x : Int32) (n : Nat) (hn : n < 2 ^ 31) : (∃ j : Nat, j < n ∧ x = nI j) ∨ (x < 0 ∨ nI n ≤ x) := by
  rcases pk_ix x hn with h | h | h
  · exact Or.inr (Or.inl h)
  · exact Or.inr (Or.inr h)
  · exact Or.inl h
theorem nI_0le {j : Nat} (h : j < 2 ^ 31) : (0 : Int32) ≤ nI j := nI_pos' h
theorem nI_n0 {j : Nat} (h : j < 2 ^ 31) : ¬ nI j < 0 := nI_pos h
section KC
variable {p : Program} {l : Launch} {e : Env} {R : Room} {s : State} {m : MethodId} {args : Array Value} {below : List Frame} {meth : Method} {c : Code} {H : Heap} {locs : List Loc} {Q : State → Prop}
variable {cc : ByteArray} {ret : Option FieldType} {maxL : Nat} {own : String} {D : va_G} {tys : List (ClassId × FieldType)} {N : Nat} {ad : Nat → Nat} {pc : Nat} {ls : Array Slot} {rest : List Value}
theorem kx_callV1 {S : Type} {Ef : S → Nat → va_E} {σ σ1 : S} {v : Value} {y : MethodName} {bytes : ByteArray} {mL n index : Nat} {rt : Option FieldType} {rm : Room} {b : Addr} {As st0 : List Value} {C : String}
    (C0 : kx_C p s m args meth c cc ret maxL own D tys N ad) (hP : va_P D classes (kw_W N ad (Ef σ)) H) (hS : va_S (kw_A N ad s.heap.size) s.heap H locs) (hls : ls.size = maxL)
    (hM : kx_Met l y (.code y bytes mL rt :: kw_T) rm D tys N ad Ef σ (.ref b :: As) (fun r u => r = some v ∧ σ1 = u))
    (w1 : Cond.methodLink own index y ∈ kw_T) (w2 : Cond.instanceMethod y ∈ kw_T) (w3 : Cond.selects C y y ∈ kw_T) (w4 : Cond.initialized C ∈ kw_T) (w5 : Cond.code y bytes mL rt ∈ kw_T)
    (hd : y.cls = C ∧ y.cls ≠ "java/lang/invoke/MethodHandle" ∧ y.cls ≠ "java/lang/invoke/VarHandle" ∧ (parseMethodDescriptor y.desc).map (fun d => d.parameters.length) = some n) (hR : rm.frames + 1 ≤ R.frames ∧ 8 + (mL + 11) + rm.locals ≤ R.locals) (h0 : rm.cells = 0 ∧ rm.slots = 0)
    {k ci : Nat} {fs : List Value} {T : u_T} {nf : Nat} (hk : k < N) (hE : Ef σ k = .inr (ci, fs)) (hb : b = ad k) (hc : classes[ci]? = some (C, T, nf)) (hn : As.length = n) (hst : st0 = As.reverse ++ .ref b :: rest) (hW : (rest.map fun v => v.category).sum ≤ 8) (hdg : decode cc pc = .ok (.invokevirtual index, 3))
    (kk : ∀ (H : Heap) (locs : List Loc), va_P D classes (kw_W N ad (Ef σ1)) H → va_S (kw_A N ad s.heap.size) s.heap H locs → W p l e R s m args below meth c H locs 0 0 Q (F0 m (pc + 3) ls (v :: rest))) :
    W p l e R s m args below meth c H locs 0 0 Q (F0 m pc ls st0) :=
  kx_callV C0 hP hS hls hM w1 w2 w3 w4 w5 hd hR h0 hk hE hb hc hn hst hW hdg (fun r u H locs hq hP hS => by
    obtain ⟨rfl, rfl⟩ := hq
    exact kk H locs hP hS)
theorem kx_callV0 {S : Type} {Ef : S → Nat → va_E} {σ σ1 : S} {y : MethodName} {bytes : ByteArray} {mL n index : Nat} {rt : Option FieldType} {rm : Room} {b : Addr} {As st0 : List Value} {C : String}
    (C0 : kx_C p s m args meth c cc ret maxL own D tys N ad) (hP : va_P D classes (kw_W N ad (Ef σ)) H) (hS : va_S (kw_A N ad s.heap.size) s.heap H locs) (hls : ls.size = maxL)
    (hM : kx_Met l y (.code y bytes mL rt :: kw_T) rm D tys N ad Ef σ (.ref b :: As) (fun r u => r = none ∧ σ1 = u))
    (w1 : Cond.methodLink own index y ∈ kw_T) (w2 : Cond.instanceMethod y ∈ kw_T) (w3 : Cond.selects C y y ∈ kw_T) (w4 : Cond.initialized C ∈ kw_T) (w5 : Cond.code y bytes mL rt ∈ kw_T)
    (hd : y.cls = C ∧ y.cls ≠ "java/lang/invoke/MethodHandle" ∧ y.cls ≠ "java/lang/invoke/VarHandle" ∧ (parseMethodDescriptor y.desc).map (fun d => d.parameters.length) = some n) (hR : rm.frames + 1 ≤ R.frames ∧ 8 + (mL + 11) + rm.locals ≤ R.locals) (h0 : rm.cells = 0 ∧ rm.slots = 0)
    {k ci : Nat} {fs : List Value} {T : u_T} {nf : Nat} (hk : k < N) (hE : Ef σ k = .inr (ci, fs)) (hb : b = ad k) (hc : classes[ci]? = some (C, T, nf)) (hn : As.length = n) (hst : st0 = As.reverse ++ .ref b :: rest) (hW : (rest.map fun v => v.category).sum ≤ 8) (hdg : decode cc pc = .ok (.invokevirtual index, 3))
    (kk : ∀ (H : Heap) (locs : List Loc), va_P D classes (kw_W N ad (Ef σ1)) H → va_S (kw_A N ad s.heap.size) s.heap H locs → W p l e R s m args below meth c H locs 0 0 Q (F0 m (pc + 3) ls rest)) :
    W p l e R s m args below meth c H locs 0 0 Q (F0 m pc ls st0) :=
  kx_callV C0 hP hS hls hM w1 w2 w3 w4 w5 hd hR h0 hk hE hb hc hn hst hW hdg (fun r u H locs hq hP hS => by
    obtain ⟨rfl, rfl⟩ := hq
    exact kk H locs hP hS)
theorem kx_callVp {S : Type} {Ef : S → Nat → va_E} {σ : S} {V : Type} {mk : V → Value} {post : V → S → Prop} {y : MethodName} {bytes : ByteArray} {mL n index : Nat} {rt : Option FieldType} {rm : Room} {b : Addr} {As st0 : List Value} {C : String}
    (C0 : kx_C p s m args meth c cc ret maxL own D tys N ad) (hP : va_P D classes (kw_W N ad (Ef σ)) H) (hS : va_S (kw_A N ad s.heap.size) s.heap H locs) (hls : ls.size = maxL)
    (hM : kx_Met l y (.code y bytes mL rt :: kw_T) rm D tys N ad Ef σ (.ref b :: As) (fun r u => ∃ v, r = some (mk v) ∧ post v u))
    (w1 : Cond.methodLink own index y ∈ kw_T) (w2 : Cond.instanceMethod y ∈ kw_T) (w3 : Cond.selects C y y ∈ kw_T) (w4 : Cond.initialized C ∈ kw_T) (w5 : Cond.code y bytes mL rt ∈ kw_T)
    (hd : y.cls = C ∧ y.cls ≠ "java/lang/invoke/MethodHandle" ∧ y.cls ≠ "java/lang/invoke/VarHandle" ∧ (parseMethodDescriptor y.desc).map (fun d => d.parameters.length) = some n) (hR : rm.frames + 1 ≤ R.frames ∧ 8 + (mL + 11) + rm.locals ≤ R.locals) (h0 : rm.cells = 0 ∧ rm.slots = 0)
    {k ci : Nat} {fs : List Value} {T : u_T} {nf : Nat} (hk : k < N) (hE : Ef σ k = .inr (ci, fs)) (hb : b = ad k) (hc : classes[ci]? = some (C, T, nf)) (hn : As.length = n) (hst : st0 = As.reverse ++ .ref b :: rest) (hW : (rest.map fun v => v.category).sum ≤ 8) (hdg : decode cc pc = .ok (.invokevirtual index, 3))
    (kk : ∀ (v : V) (u : S) (H : Heap) (locs : List Loc), post v u → va_P D classes (kw_W N ad (Ef u)) H → va_S (kw_A N ad s.heap.size) s.heap H locs → W p l e R s m args below meth c H locs 0 0 Q (F0 m (pc + 3) ls (mk v :: rest))) :
    W p l e R s m args below meth c H locs 0 0 Q (F0 m pc ls st0) :=
  kx_callV C0 hP hS hls hM w1 w2 w3 w4 w5 hd hR h0 hk hE hb hc hn hst hW hdg (fun r u H locs hq hP hS => by
    obtain ⟨v, rfl, hq⟩ := hq
    exact kk v u H locs hq hP hS)
theorem kx_callVn {S : Type} {Ef : S → Nat → va_E} {σ : S} {post : S → Prop} {y : MethodName} {bytes : ByteArray} {mL n index : Nat} {rt : Option FieldType} {rm : Room} {b : Addr} {As st0 : List Value} {C : String}
    (C0 : kx_C p s m args meth c cc ret maxL own D tys N ad) (hP : va_P D classes (kw_W N ad (Ef σ)) H) (hS : va_S (kw_A N ad s.heap.size) s.heap H locs) (hls : ls.size = maxL)
    (hM : kx_Met l y (.code y bytes mL rt :: kw_T) rm D tys N ad Ef σ (.ref b :: As) (fun r u => r = none ∧ post u))
    (w1 : Cond.methodLink own index y ∈ kw_T) (w2 : Cond.instanceMethod y ∈ kw_T) (w3 : Cond.selects C y y ∈ kw_T) (w4 : Cond.initialized C ∈ kw_T) (w5 : Cond.code y bytes mL rt ∈ kw_T)
    (hd : y.cls = C ∧ y.cls ≠ "java/lang/invoke/MethodHandle" ∧ y.cls ≠ "java/lang/invoke/VarHandle" ∧ (parseMethodDescriptor y.desc).map (fun d => d.parameters.length) = some n) (hR : rm.frames + 1 ≤ R.frames ∧ 8 + (mL + 11) + rm.locals ≤ R.locals) (h0 : rm.cells = 0 ∧ rm.slots = 0)
    {k ci : Nat} {fs : List Value} {T : u_T} {nf : Nat} (hk : k < N) (hE : Ef σ k = .inr (ci, fs)) (hb : b = ad k) (hc : classes[ci]? = some (C, T, nf)) (hn : As.length = n) (hst : st0 = As.reverse ++ .ref b :: rest) (hW : (rest.map fun v => v.category).sum ≤ 8) (hdg : decode cc pc = .ok (.invokevirtual index, 3))
    (kk : ∀ (u : S) (H : Heap) (locs : List Loc), post u → va_P D classes (kw_W N ad (Ef u)) H → va_S (kw_A N ad s.heap.size) s.heap H locs → W p l e R s m args below meth c H locs 0 0 Q (F0 m (pc + 3) ls rest)) :
    W p l e R s m args below meth c H locs 0 0 Q (F0 m pc ls st0) :=
  kx_callV C0 hP hS hls hM w1 w2 w3 w4 w5 hd hR h0 hk hE hb hc hn hst hW hdg (fun r u H locs hq hP hS => by
    obtain ⟨rfl, hq⟩ := hq
    exact kk u H locs hq hP hS)
theorem kx_callS1 {S : Type} {Ef : S → Nat → va_E} {σ σ1 : S} {v : Value} {y : MethodName} {bytes : ByteArray} {mL n index : Nat} {rt : Option FieldType} {rm : Room} {As st0 : List Value}
    (C0 : kx_C p s m args meth c cc ret maxL own D tys N ad) (hP : va_P D classes (kw_W N ad (Ef σ)) H) (hS : va_S (kw_A N ad s.heap.size) s.heap H locs) (hls : ls.size = maxL)
    (hM : kx_Met l y (.code y bytes mL rt :: kw_T) rm D tys N ad Ef σ As (fun r u => r = some v ∧ σ1 = u))
    (w1 : Cond.methodLink own index y ∈ kw_T) (w2 : Cond.static y ∈ kw_T) (w4 : Cond.initialized y.cls ∈ kw_T) (w5 : Cond.code y bytes mL rt ∈ kw_T)
    (hd : y.cls ≠ "java/lang/invoke/MethodHandle" ∧ y.cls ≠ "java/lang/invoke/VarHandle" ∧ (parseMethodDescriptor y.desc).map (fun d => d.parameters.length) = some n) (hR : rm.frames + 1 ≤ R.frames ∧ 8 + (mL + 11) + rm.locals ≤ R.locals) (h0 : rm.cells = 0 ∧ rm.slots = 0)
    (hn : As.length = n) (hst : st0 = As.reverse ++ rest) (hW : (rest.map fun v => v.category).sum ≤ 8) (hdg : decode cc pc = .ok (.invokestatic index, 3))
    (kk : ∀ (H : Heap) (locs : List Loc), va_P D classes (kw_W N ad (Ef σ1)) H → va_S (kw_A N ad s.heap.size) s.heap H locs → W p l e R s m args below meth c H locs 0 0 Q (F0 m (pc + 3) ls (v :: rest))) :
    W p l e R s m args below meth c H locs 0 0 Q (F0 m pc ls st0) :=
  kx_callS C0 hP hS hls hM w1 w2 w4 w5 hd hR h0 hn hst hW hdg (fun r u H locs hq hP hS => by
    obtain ⟨rfl, rfl⟩ := hq
    exact kk H locs hP hS)
end KC
section KT
variable {p : Program} {l : Launch} {e : Env} {R : Room} {s : State} {m : MethodId} {args : Array Value} {below : List Frame} {meth : Method} {c : Code} {H : Heap} {locs : List Loc} {Q : State → Prop} {pc : Nat} {ls : Array Slot} {rest : List Value}
theorem kx_topd {v v' : UInt64} (h : v = v') (kk : W p l e R s m args below meth c H locs 0 0 Q (F0 m pc ls (.double v' :: rest))) : W p l e R s m args below meth c H locs 0 0 Q (F0 m pc ls (.double v :: rest)) := h ▸ kk
theorem kx_topl {v v' : Int64} (h : v = v') (kk : W p l e R s m args below meth c H locs 0 0 Q (F0 m pc ls (.long v' :: rest))) : W p l e R s m args below meth c H locs 0 0 Q (F0 m pc ls (.long v :: rest)) := h ▸ kk
end KT
