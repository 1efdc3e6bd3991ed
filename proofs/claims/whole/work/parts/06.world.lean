/-! the two worlds: the class's (36 cells) and the reference's (24 cells), as functions of a raw state -/
def upd2 (g : Nat → Nat → Int32) (f k : Nat) (v : Int32) : Nat → Nat → Int32 := fun f' k' => if f' = f ∧ k' = k then v else g f' k'
theorem upd2_s {g : Nat → Nat → Int32} {f k : Nat} {v : Int32} : upd2 g f k v f k = v := by simp [upd2]
theorem upd2_f {g : Nat → Nat → Int32} {f f' k : Nat} {v : Int32} (h : f' ≠ f) : upd2 g f k v f' = g f' := by funext k'; simp [upd2, h]
theorem upd2_k {g : Nat → Nat → Int32} {f f' k k' : Nat} {v : Int32} (h : k' ≠ k) : upd2 g f k v f' k' = g f' k' := by simp [upd2, h]
theorem upd2_u {g : Nat → Nat → Int32} {f k : Nat} {v : Int32} : upd2 g f k v f = upd (g f) k v := by funext k'; simp [upd2, upd]
theorem upd2_fn {g : Nat → Nat → Int32} {f f' k : Nat} {v : Int32} : upd2 g f k v f' = if f' = f then upd (g f) k v else g f' := by
  by_cases h : f' = f
  · subst h; simp [upd2_u]
  · simp [upd2_f h, h]
theorem upd2_at {g : Nat → Nat → Int32} {f f' k k' : Nat} {v : Int32} : upd2 g f k v f' k' = if f' = f ∧ k' = k then v else g f' k' := rfl
theorem upd_at {g : Nat → Int32} {k k' : Nat} {v : Int32} : upd g k v k' = if k' = k then v else g k' := rfl
abbrev XS : Type := (Nat → Nat → Int32) × (Nat → Nat)
abbrev MS : Type := Nat → Nat → Int32
def xs (σ : XS) (f k : Nat) (v : Int32) : XS := (upd2 σ.1 f k v, σ.2)
/-- an ordinal: the script's int times 0.125 -/
def d8 (n : Int32) : UInt64 := FP.dmul (FP.i2d n) 4593671619917905920
def kx_tys (cA : Nat → ClassId) : List (ClassId × FieldType) := [(cA 0, .int), (cA 1, .long), (cA 2, .boolean), (cA 3, .object RP), (cA 4, .object RE)]
def wX_X (ad : Nat → Nat) (σ : XS) : List Value := [.ref (ad 1), .ref (ad 2), .ref (ad 3), .ref (ad 4), .ref (ad 5), .ref (ad 6), .ref (ad 7), .int (σ.1 27 0), .int (σ.1 28 0)]
def wX_kept (h : Nat) : Nat := if h = 0 then 16 else 8
def wX_H (ad : Nat → Nat) (σ : XS) (h : Nat) : List Value := [.ref (ad (8 + h)), .int (nI (wX_kept h)), .int (σ.1 (30 + h) 0)]
def wX_P (σ : XS) (j : Nat) : List Value := [.int (nI j), .int (σ.1 1 j), .int (σ.1 2 j), .int (σ.1 3 j), .int (σ.1 4 j), .int (σ.1 5 j), .int (σ.1 6 j), .int (σ.1 7 j), .int (σ.1 8 j)]
def wX_E (σ : XS) (j : Nat) : List Value := [.int (nI j), .int (σ.1 11 j), .int (σ.1 12 j), .int (σ.1 13 j), .int (σ.1 14 j), .int (σ.1 15 j), .double (d8 (σ.1 16 j)), .int (σ.1 17 j), .int (σ.1 18 j)]
/-- an array of references whose first n places are filled -/
def plA (b n : Nat) (g : Nat → Nat) (ad : Nat → Nat) : Nat → Option Nat := fun i => if i < n then some (ad (b + g i)) else none
theorem plA_in {b n : Nat} {g ad : Nat → Nat} {i : Nat} (h : i < n) : plA b n g ad i = some (ad (b + g i)) := if_pos h
def wX_top (cA : Nat → ClassId) (ad : Nat → Nat) (σ : XS) : Nat → va_E := fun k => match k with
  | 0 => .inr (3, wX_X ad σ)
  | 1 => .inl (cA 3, (8, .inr (.inr (.inr (.inr (plA 12 8 (fun i => i) ad))))))
  | 2 => .inl (cA 4, (16, .inr (.inr (.inr (.inr (plA 20 16 (fun i => i) ad))))))
  | _ => .inl (cA 4, (16, .inr (.inr (.inr (.inr (plA 20 16 σ.2 ad))))))
def wX (cA : Nat → ClassId) (ad : Nat → Nat) (σ : XS) (k : Nat) : va_E :=
  if k < 4 then wX_top cA ad σ k else if k < 8 then .inr (1, wX_H ad σ (k - 4)) else if k < 12 then .inl (cA 0, (16, .inl (σ.1 (40 + (k - 8))))) else if k < 20 then .inr (2, wX_P σ (k - 12)) else .inr (0, wX_E σ (k - 20))
theorem wX_aH {cA : Nat → ClassId} {ad : Nat → Nat} {σ : XS} {h : Nat} (hh : h < 4) : wX cA ad σ (4 + h) = .inr (1, wX_H ad σ h) := by
  simp only [wX]; rw [if_neg (by omega), if_pos (by omega), show 4 + h - 4 = h by omega]
theorem wX_aR {cA : Nat → ClassId} {ad : Nat → Nat} {σ : XS} {h : Nat} (hh : h < 4) : wX cA ad σ (8 + h) = .inl (cA 0, (16, .inl (σ.1 (40 + h)))) := by
  simp only [wX]; rw [if_neg (by omega), if_neg (by omega), if_pos (by omega), show 8 + h - 8 = h by omega]
theorem wX_aP {cA : Nat → ClassId} {ad : Nat → Nat} {σ : XS} {j : Nat} (hj : j < 8) : wX cA ad σ (12 + j) = .inr (2, wX_P σ j) := by
  simp only [wX]; rw [if_neg (by omega), if_neg (by omega), if_neg (by omega), if_pos (by omega), show 12 + j - 12 = j by omega]
theorem wX_aE {cA : Nat → ClassId} {ad : Nat → Nat} {σ : XS} {j : Nat} : wX cA ad σ (20 + j) = .inr (0, wX_E σ j) := by
  simp only [wX]; rw [if_neg (by omega), if_neg (by omega), if_neg (by omega), if_neg (by omega), show 20 + j - 20 = j by omega]
/-- one cell stays where the codes that it shows stay -/
theorem wX_same {cA : Nat → ClassId} {ad : Nat → Nat} {σ σ' : XS} {i : Nat} (hi : i < 36) (ho : i = 3 → σ'.2 = σ.2) (h0 : i = 0 → σ'.1 27 0 = σ.1 27 0 ∧ σ'.1 28 0 = σ.1 28 0) (hH : ∀ h, h < 4 → i = 4 + h → σ'.1 (30 + h) 0 = σ.1 (30 + h) 0) (hR : ∀ h, h < 4 → i = 8 + h → σ'.1 (40 + h) = σ.1 (40 + h))
    (hP : ∀ j, j < 8 → i = 12 + j → ∀ f, 1 ≤ f → f ≤ 8 → σ'.1 f j = σ.1 f j) (hE : ∀ j, j < 16 → i = 20 + j → ∀ f, 11 ≤ f → f ≤ 18 → σ'.1 f j = σ.1 f j) : wX cA ad σ' i = wX cA ad σ i := by
  rcases (show i < 4 ∨ (4 ≤ i ∧ i < 8) ∨ (8 ≤ i ∧ i < 12) ∨ (12 ≤ i ∧ i < 20) ∨ (20 ≤ i ∧ i < 36) by omega) with h | h | h | h | h
  · simp only [wX]
    rw [if_pos h, if_pos h]
    rcases (show i = 0 ∨ i = 1 ∨ i = 2 ∨ i = 3 by omega) with rfl | rfl | rfl | rfl
    · simp [wX_top, wX_X, h0 rfl]
    · rfl
    · rfl
    · simp [wX_top, ho rfl]
  · obtain ⟨k, rfl⟩ : ∃ k, i = 4 + k := ⟨i - 4, by omega⟩
    rw [wX_aH (by omega), wX_aH (by omega)]
    simp [wX_H, hH k (by omega) rfl]
  · obtain ⟨k, rfl⟩ : ∃ k, i = 8 + k := ⟨i - 8, by omega⟩
    rw [wX_aR (by omega), wX_aR (by omega), hR k (by omega) rfl]
  · obtain ⟨k, rfl⟩ : ∃ k, i = 12 + k := ⟨i - 12, by omega⟩
    have hq := hP k (by omega) rfl
    rw [wX_aP (by omega), wX_aP (by omega)]
    simp [wX_P, hq]
  · obtain ⟨k, rfl⟩ : ∃ k, i = 20 + k := ⟨i - 20, by omega⟩
    have hq := hE k (by omega) rfl
    rw [wX_aE, wX_aE]
    simp [wX_E, hq]
def mlen (k : Nat) : Nat := if k < 7 then 8 else if k < 15 then 16 else if k = 15 then 24 else if k = 16 then 16 else if k < 19 then 10 else if k = 19 then 8 else if k = 21 then 80 else 5
theorem mlen_lt (k : Nat) : mlen k < 2 ^ 31 := by
  have h : mlen k ≤ 80 := by
    simp only [mlen]
    (repeat' split) <;> omega
  omega
def wM_M (bd : Nat → Nat) (μ : MS) : List Value := [.ref (bd 1), .ref (bd 2), .ref (bd 3), .ref (bd 4), .ref (bd 5), .ref (bd 6), .int (μ 30 0), .int (μ 31 0), .ref (bd 7), .ref (bd 8), .ref (bd 9), .ref (bd 10), .ref (bd 11), .ref (bd 12), .ref (bd 13), .ref (bd 14), .int (μ 32 0), .ref (bd 15), .int (μ 33 0), .ref (bd 16), .ref (bd 17), .ref (bd 18), .ref (bd 19), .int (μ 34 0), .ref (bd 20), .ref (bd 21), .ref (bd 22), .ref (bd 23), .int (μ 35 0)]
def wM (cA : Nat → ClassId) (bd : Nat → Nat) (μ : MS) (k : Nat) : va_E :=
  if k = 0 then .inr (4, wM_M bd μ) else if k = 11 then .inl (cA 1, (16, .inr (.inl (fun i => (μ 11 i).toInt64)))) else .inl (cA (if k = 14 ∨ k = 19 then 2 else 0), (mlen k, .inl (μ k)))
theorem wM_same {cA : Nat → ClassId} {bd : Nat → Nat} {μ : MS} {f j : Nat} {v : Int32} {i : Nat} (hi : i < 24) (h : i ≠ f) (h0 : i = 0 → f < 24) : wM cA bd (upd2 μ f j v) i = wM cA bd μ i := by
  simp only [wM]
  by_cases hk : i = 0
  · subst hk
    have := h0 rfl
    simp [wM_M, upd2_at, show (30 : Nat) ≠ f by omega, show (31 : Nat) ≠ f by omega, show (32 : Nat) ≠ f by omega, show (33 : Nat) ≠ f by omega, show (34 : Nat) ≠ f by omega, show (35 : Nat) ≠ f by omega]
  · by_cases hk2 : i = 11
    · subst hk2
      simp [upd2_f h]
    · simp [hk, hk2, upd2_f h]
section WR
variable {p : Program} {l : Launch} {e : Env} {R : Room} {s : State} {m : MethodId} {args : Array Value} {below : List Frame} {meth : Method} {c : Code} {H : Heap} {locs : List Loc} {Q : State → Prop}
variable {cc : ByteArray} {ret : Option FieldType} {maxL : Nat} {own : String} {D : va_G} {cA : Nat → ClassId} {ad : Nat → Nat} {pc : Nat} {ls : Array Slot} {rest : List Value} {σ : XS} {μ : MS}
theorem FP_C : ∀ j, j < 9 → (FP j).1 = RP := by decide +kernel
theorem FE_C : ∀ j, j < 9 → (FE j).1 = RE := by decide +kernel
theorem FH_C : ∀ j, j < 3 → (FH j).1 = RH := by decide +kernel
theorem FX_C : ∀ j, j < 9 → (FX j).1 = RX := by decide +kernel
theorem FM_C : ∀ j, j < 29 → (FM j).1 = RM := by decide +kernel
theorem kx_topi {v v' : Int32} (h : v = v') (kk : W p l e R s m args below meth c H locs 0 0 Q (F0 m pc ls (.int v' :: rest))) : W p l e R s m args below meth c H locs 0 0 Q (F0 m pc ls (.int v :: rest)) := h ▸ kk
theorem xX_get (C0 : kx_C p s m args meth c cc ret maxL own D (kx_tys cA) 36 ad) (hP : va_P D classes (kw_W 36 ad (wX cA ad σ)) H) (j : Nat) (hj : j < 9) {index : Nat} {v : Value} (hl : Cond.fieldLink own index RX (FX j).2.1 (FX j).2.2.1 ∈ kw_T) (hv : (wX_X ad σ)[j]? = some v) (hdg : decode cc pc = .ok (.getfield index, 3))
    (kk : W p l e R s m args below meth c H locs 0 0 Q (F0 m (pc + 3) ls (v :: rest))) : W p l e R s m args below meth c H locs 0 0 Q (F0 m pc ls (.ref (ad 0) :: rest)) :=
  kx_get C0 hP (k := 0) (by omega) rfl rfl rfl inX j hj hl (FX_C j hj) hv hdg kk
theorem xP_get (C0 : kx_C p s m args meth c cc ret maxL own D (kx_tys cA) 36 ad) (hP : va_P D classes (kw_W 36 ad (wX cA ad σ)) H) {i : Nat} (hi : i < 8) (j : Nat) (hj : j < 9) {index : Nat} {v : Value} (hl : Cond.fieldLink own index RP (FP j).2.1 (FP j).2.2.1 ∈ kw_T) (hv : (wX_P σ i)[j]? = some v) (hdg : decode cc pc = .ok (.getfield index, 3))
    (kk : W p l e R s m args below meth c H locs 0 0 Q (F0 m (pc + 3) ls (v :: rest))) : W p l e R s m args below meth c H locs 0 0 Q (F0 m pc ls (.ref (ad (12 + i)) :: rest)) :=
  kx_get C0 hP (k := 12 + i) (by omega) (wX_aP hi) rfl rfl inP j hj hl (FP_C j hj) hv hdg kk
theorem xE_get (C0 : kx_C p s m args meth c cc ret maxL own D (kx_tys cA) 36 ad) (hP : va_P D classes (kw_W 36 ad (wX cA ad σ)) H) {i : Nat} (hi : i < 16) (j : Nat) (hj : j < 9) {index : Nat} {v : Value} (hl : Cond.fieldLink own index RE (FE j).2.1 (FE j).2.2.1 ∈ kw_T) (hv : (wX_E σ i)[j]? = some v) (hdg : decode cc pc = .ok (.getfield index, 3))
    (kk : W p l e R s m args below meth c H locs 0 0 Q (F0 m (pc + 3) ls (v :: rest))) : W p l e R s m args below meth c H locs 0 0 Q (F0 m pc ls (.ref (ad (20 + i)) :: rest)) :=
  kx_get C0 hP (k := 20 + i) (by omega) wX_aE rfl rfl inE j hj hl (FE_C j hj) hv hdg kk
theorem xH_get (C0 : kx_C p s m args meth c cc ret maxL own D (kx_tys cA) 36 ad) (hP : va_P D classes (kw_W 36 ad (wX cA ad σ)) H) {i : Nat} (hi : i < 4) (j : Nat) (hj : j < 3) {index : Nat} {v : Value} (hl : Cond.fieldLink own index RH (FH j).2.1 (FH j).2.2.1 ∈ kw_T) (hv : (wX_H ad σ i)[j]? = some v) (hdg : decode cc pc = .ok (.getfield index, 3))
    (kk : W p l e R s m args below meth c H locs 0 0 Q (F0 m (pc + 3) ls (v :: rest))) : W p l e R s m args below meth c H locs 0 0 Q (F0 m pc ls (.ref (ad (4 + i)) :: rest)) :=
  kx_get C0 hP (k := 4 + i) (by omega) (wX_aH hi) rfl rfl inH j hj hl (FH_C j hj) hv hdg kk
theorem wX_setP {i : Nat} (hi : i < 8) {j : Nat} (h1 : 1 ≤ j) (h8 : j ≤ 8) (v : Int32) : wX cA ad (xs σ j i v) (12 + i) = .inr (2, (wX_P σ i).set j (.int v)) ∧ ∀ k, k < 36 → k ≠ 12 + i → wX cA ad (xs σ j i v) k = wX cA ad σ k := by
  constructor
  · rw [wX_aP hi]
    rcases (show j = 1 ∨ j = 2 ∨ j = 3 ∨ j = 4 ∨ j = 5 ∨ j = 6 ∨ j = 7 ∨ j = 8 by omega) with rfl | rfl | rfl | rfl | rfl | rfl | rfl | rfl <;> simp [wX_P, xs, upd2_at]
  · intro k hk hne
    refine wX_same hk (fun _ => rfl) (fun h => ?_) (fun h hh e => ?_) (fun h hh e => ?_) (fun q hq e f h1 h2 => ?_) (fun q hq e f h1 h2 => ?_)
    · simp [xs, upd2_at, show (27 : Nat) ≠ j by omega, show (28 : Nat) ≠ j by omega]
    · simp [xs, upd2_at, show 30 + h ≠ j by omega]
    · simp [xs, upd2_f (show 40 + h ≠ j by omega)]
    · simp [xs, upd2_k (show q ≠ i by omega)]
    · simp [xs, upd2_f (show f ≠ j by omega)]
theorem wX_setE {i : Nat} (hi : i < 16) {j : Nat} (h1 : 1 ≤ j) (h8 : j ≤ 8) (v : Int32) : wX cA ad (xs σ (10 + j) i v) (20 + i) = .inr (0, (wX_E σ i).set j (if j = 6 then .double (d8 v) else .int v)) ∧ ∀ k, k < 36 → k ≠ 20 + i → wX cA ad (xs σ (10 + j) i v) k = wX cA ad σ k := by
  constructor
  · rw [wX_aE]
    rcases (show j = 1 ∨ j = 2 ∨ j = 3 ∨ j = 4 ∨ j = 5 ∨ j = 6 ∨ j = 7 ∨ j = 8 by omega) with rfl | rfl | rfl | rfl | rfl | rfl | rfl | rfl <;> simp [wX_E, xs, upd2_at]
  · intro k hk hne
    refine wX_same hk (fun _ => rfl) (fun h => ?_) (fun h hh e => ?_) (fun h hh e => ?_) (fun q hq e f h1 h2 => ?_) (fun q hq e f h1 h2 => ?_)
    · simp [xs, upd2_at, show (27 : Nat) ≠ 10 + j by omega, show (28 : Nat) ≠ 10 + j by omega]
    · simp [xs, upd2_at, show 30 + h ≠ 10 + j by omega]
    · simp [xs, upd2_f (show 40 + h ≠ 10 + j by omega)]
    · simp [xs, upd2_f (show f ≠ 10 + j by omega)]
    · simp [xs, upd2_k (show q ≠ i by omega)]
theorem wX_setH {i : Nat} (hi : i < 4) (v : Int32) : wX cA ad (xs σ (30 + i) 0 v) (4 + i) = .inr (1, (wX_H ad σ i).set 2 (.int v)) ∧ ∀ k, k < 36 → k ≠ 4 + i → wX cA ad (xs σ (30 + i) 0 v) k = wX cA ad σ k := by
  constructor
  · rw [wX_aH hi]
    simp [wX_H, xs, upd2_at]
  · intro k hk hne
    refine wX_same hk (fun _ => rfl) (fun h => ?_) (fun h hh e => ?_) (fun h hh e => ?_) (fun q hq e f h1 h2 => ?_) (fun q hq e f h1 h2 => ?_)
    · simp [xs, upd2_at, show (27 : Nat) ≠ 30 + i by omega, show (28 : Nat) ≠ 30 + i by omega]
    · simp [xs, upd2_at, show h ≠ i by omega]
    · simp [xs, upd2_f (show 40 + h ≠ 30 + i by omega)]
    · simp [xs, upd2_f (show f ≠ 30 + i by omega)]
    · simp [xs, upd2_f (show f ≠ 30 + i by omega)]
theorem wX_setR {i : Nat} (hi : i < 4) (j : Nat) (v : Int32) : wX cA ad (xs σ (40 + i) j v) (8 + i) = .inl (cA 0, (16, .inl (upd (σ.1 (40 + i)) j v))) ∧ ∀ k, k < 36 → k ≠ 8 + i → wX cA ad (xs σ (40 + i) j v) k = wX cA ad σ k := by
  constructor
  · rw [wX_aR hi]
    simp [xs, upd2_u]
  · intro k hk hne
    refine wX_same hk (fun _ => rfl) (fun h => ?_) (fun h hh e => ?_) (fun h hh e => ?_) (fun q hq e f h1 h2 => ?_) (fun q hq e f h1 h2 => ?_)
    · simp [xs, upd2_at, show (27 : Nat) ≠ 40 + i by omega, show (28 : Nat) ≠ 40 + i by omega]
    · simp [xs, upd2_at, show 30 + h ≠ 40 + i by omega]
    · simp [xs, upd2_f (show 40 + h ≠ 40 + i by omega)]
    · simp [xs, upd2_f (show f ≠ 40 + i by omega)]
    · simp [xs, upd2_f (show f ≠ 40 + i by omega)]
theorem wX_setX {j : Nat} (hj : j = 7 ∨ j = 8) (v : Int32) : wX cA ad (xs σ (20 + j) 0 v) 0 = .inr (3, (wX_X ad σ).set j (.int v)) ∧ ∀ k, k < 36 → k ≠ 0 → wX cA ad (xs σ (20 + j) 0 v) k = wX cA ad σ k := by
  constructor
  · rcases hj with rfl | rfl <;> simp [wX, wX_top, wX_X, xs, upd2_at]
  · intro k hk hne
    refine wX_same hk (fun _ => rfl) (fun h => absurd h hne) (fun h hh e => ?_) (fun h hh e => ?_) (fun q hq e f h1 h2 => ?_) (fun q hq e f h1 h2 => ?_)
    · simp [xs, upd2_at, show 30 + h ≠ 20 + j by omega]
    · simp [xs, upd2_f (show 40 + h ≠ 20 + j by omega)]
    · simp [xs, upd2_f (show f ≠ 20 + j by omega)]
    · simp [xs, upd2_f (show f ≠ 20 + j by omega)]
theorem wX_setO (j v : Nat) (hj : j < 16) : wX cA ad (σ.1, fun k => if k = j then v else σ.2 k) 3 = .inl (cA 4, (16, .inr (.inr (.inr (.inr (va_up (plA 20 16 σ.2 ad) j (some (ad (20 + v))))))))) ∧ ∀ k, k < 36 → k ≠ 3 → wX cA ad (σ.1, fun k => if k = j then v else σ.2 k) k = wX cA ad σ k := by
  constructor
  · simp only [wX, wX_top]
    rw [if_pos (by omega)]
    congr 7
    funext i
    simp only [va_up, plA]
    by_cases h : i = j
    · subst h; simp [hj]
    · simp [h]
  · intro k hk hne
    exact wX_same hk (fun h => absurd h hne) (fun h => ⟨rfl, rfl⟩) (fun h hh e => rfl) (fun h hh e => rfl) (fun q hq e f h1 h2 => rfl) (fun q hq e f h1 h2 => rfl)
theorem xP_put (C0 : kx_C p s m args meth c cc ret maxL own D (kx_tys cA) 36 ad) (hP : va_P D classes (kw_W 36 ad (wX cA ad σ)) H) (hS : va_S (kw_A 36 ad s.heap.size) s.heap H locs) {i : Nat} (hi : i < 8) (j : Nat) (h1 : 1 ≤ j) (h8 : j ≤ 8) {index : Nat} {v : Int32} (hl : Cond.fieldLink own index RP (FP j).2.1 (FP j).2.2.1 ∈ kw_T) (hn : narrow (tP j) (.int v) = .int v ∧ fits (tP j) (.int v) = true) (hdg : decode cc pc = .ok (.putfield index, 3))
    (kk : ∀ (H : Heap) (locs : List Loc), va_P D classes (kw_W 36 ad (wX cA ad (xs σ j i v))) H → va_S (kw_A 36 ad s.heap.size) s.heap H locs → W p l e R s m args below meth c H locs 0 0 Q (F0 m (pc + 3) ls rest)) : W p l e R s m args below meth c H locs 0 0 Q (F0 m pc ls (.int v :: .ref (ad (12 + i)) :: rest)) :=
  kx_put C0 hP hS (k := 12 + i) (by omega) (wX_aP hi) rfl rfl inP tP_ok nP j (by omega) hl (FP_C j (by omega)) (by rcases (show j = 1 ∨ j = 2 ∨ j = 3 ∨ j = 4 ∨ j = 5 ∨ j = 6 ∨ j = 7 ∨ j = 8 by omega) with rfl | rfl | rfl | rfl | rfl | rfl | rfl | rfl <;> rfl) hn.1 hn.2 (by simp [wX_P]; omega) (wX_setP hi h1 h8 v).1 (wX_setP hi h1 h8 v).2 hdg kk
theorem xE_put (C0 : kx_C p s m args meth c cc ret maxL own D (kx_tys cA) 36 ad) (hP : va_P D classes (kw_W 36 ad (wX cA ad σ)) H) (hS : va_S (kw_A 36 ad s.heap.size) s.heap H locs) {i : Nat} (hi : i < 16) (j : Nat) (h1 : 1 ≤ j) (h8 : j ≤ 8) (h6 : j ≠ 6) {index : Nat} {v : Int32} (hl : Cond.fieldLink own index RE (FE j).2.1 (FE j).2.2.1 ∈ kw_T) (hn : narrow (tE j) (.int v) = .int v ∧ fits (tE j) (.int v) = true) (hdg : decode cc pc = .ok (.putfield index, 3))
    (kk : ∀ (H : Heap) (locs : List Loc), va_P D classes (kw_W 36 ad (wX cA ad (xs σ (10 + j) i v))) H → va_S (kw_A 36 ad s.heap.size) s.heap H locs → W p l e R s m args below meth c H locs 0 0 Q (F0 m (pc + 3) ls rest)) : W p l e R s m args below meth c H locs 0 0 Q (F0 m pc ls (.int v :: .ref (ad (20 + i)) :: rest)) :=
  kx_put C0 hP hS (k := 20 + i) (by omega) wX_aE rfl rfl inE tE_ok nE j (by omega) hl (FE_C j (by omega)) (by rcases (show j = 1 ∨ j = 2 ∨ j = 3 ∨ j = 4 ∨ j = 5 ∨ j = 6 ∨ j = 7 ∨ j = 8 by omega) with rfl | rfl | rfl | rfl | rfl | rfl | rfl | rfl <;> rfl) hn.1 hn.2 (by simp [wX_E]; omega) (by rw [(wX_setE hi h1 h8 v).1, if_neg h6]) (wX_setE hi h1 h8 v).2 hdg kk
theorem xE_putD (C0 : kx_C p s m args meth c cc ret maxL own D (kx_tys cA) 36 ad) (hP : va_P D classes (kw_W 36 ad (wX cA ad σ)) H) (hS : va_S (kw_A 36 ad s.heap.size) s.heap H locs) {i : Nat} (hi : i < 16) {index : Nat} {v : Int32} (hl : Cond.fieldLink own index RE (FE 6).2.1 (FE 6).2.2.1 ∈ kw_T) (hdg : decode cc pc = .ok (.putfield index, 3))
    (kk : ∀ (H : Heap) (locs : List Loc), va_P D classes (kw_W 36 ad (wX cA ad (xs σ 16 i v))) H → va_S (kw_A 36 ad s.heap.size) s.heap H locs → W p l e R s m args below meth c H locs 0 0 Q (F0 m (pc + 3) ls rest)) : W p l e R s m args below meth c H locs 0 0 Q (F0 m pc ls (.double (d8 v) :: .ref (ad (20 + i)) :: rest)) :=
  kx_put C0 hP hS (k := 20 + i) (by omega) wX_aE rfl rfl inE tE_ok nE 6 (by omega) hl (FE_C 6 (by omega)) rfl rfl rfl (by simp [wX_E]) (by have h := (wX_setE (cA := cA) (ad := ad) (σ := σ) hi (j := 6) (by omega) (by omega) v).1; rw [if_pos rfl] at h; exact h) (wX_setE (j := 6) hi (by omega) (by omega) v).2 hdg kk
theorem xH_put (C0 : kx_C p s m args meth c cc ret maxL own D (kx_tys cA) 36 ad) (hP : va_P D classes (kw_W 36 ad (wX cA ad σ)) H) (hS : va_S (kw_A 36 ad s.heap.size) s.heap H locs) {i : Nat} (hi : i < 4) {index : Nat} {v : Int32} (hl : Cond.fieldLink own index RH (FH 2).2.1 (FH 2).2.2.1 ∈ kw_T) (hdg : decode cc pc = .ok (.putfield index, 3))
    (kk : ∀ (H : Heap) (locs : List Loc), va_P D classes (kw_W 36 ad (wX cA ad (xs σ (30 + i) 0 v))) H → va_S (kw_A 36 ad s.heap.size) s.heap H locs → W p l e R s m args below meth c H locs 0 0 Q (F0 m (pc + 3) ls rest)) : W p l e R s m args below meth c H locs 0 0 Q (F0 m pc ls (.int v :: .ref (ad (4 + i)) :: rest)) :=
  kx_put C0 hP hS (k := 4 + i) (by omega) (wX_aH hi) rfl rfl inH tH_ok nH 2 (by omega) hl (FH_C 2 (by omega)) rfl rfl rfl (by simp [wX_H]) (wX_setH hi v).1 (wX_setH hi v).2 hdg kk
theorem xX_put (C0 : kx_C p s m args meth c cc ret maxL own D (kx_tys cA) 36 ad) (hP : va_P D classes (kw_W 36 ad (wX cA ad σ)) H) (hS : va_S (kw_A 36 ad s.heap.size) s.heap H locs) (j : Nat) (hj : j = 7 ∨ j = 8) {index : Nat} {v : Int32} (hl : Cond.fieldLink own index RX (FX j).2.1 (FX j).2.2.1 ∈ kw_T) (hdg : decode cc pc = .ok (.putfield index, 3))
    (kk : ∀ (H : Heap) (locs : List Loc), va_P D classes (kw_W 36 ad (wX cA ad (xs σ (20 + j) 0 v))) H → va_S (kw_A 36 ad s.heap.size) s.heap H locs → W p l e R s m args below meth c H locs 0 0 Q (F0 m (pc + 3) ls rest)) : W p l e R s m args below meth c H locs 0 0 Q (F0 m pc ls (.int v :: .ref (ad 0) :: rest)) :=
  kx_put C0 hP hS (k := 0) (by omega) rfl rfl rfl inX tX_ok nX j (by omega) hl (FX_C j (by omega)) (by rcases hj with rfl | rfl <;> rfl) (by rcases hj with rfl | rfl <;> rfl) (by rcases hj with rfl | rfl <;> rfl) (by simp [wX_X]; omega) (wX_setX hj v).1 (wX_setX hj v).2 hdg kk
theorem xA_P (C0 : kx_C p s m args meth c cc ret maxL own D (kx_tys cA) 36 ad) (hP : va_P D classes (kw_W 36 ad (wX cA ad σ)) H) {i : Int32} (j : Nat) (hi : i = nI j) (hj : j < 8) (hdg : decode cc pc = .ok (.aaload, 1))
    (kk : W p l e R s m args below meth c H locs 0 0 Q (F0 m (pc + 1) ls (.ref (ad (12 + j)) :: rest))) : W p l e R s m args below meth c H locs 0 0 Q (F0 m pc ls (.int i :: .ref (ad 1) :: rest)) :=
  kx_ald C0 hP (k := 1) (t0 := 3) (C := RP) (by omega) rfl rfl rfl hi hj (by omega) (plA_in hj) hdg kk
theorem xA_E (C0 : kx_C p s m args meth c cc ret maxL own D (kx_tys cA) 36 ad) (hP : va_P D classes (kw_W 36 ad (wX cA ad σ)) H) {i : Int32} (j : Nat) (hi : i = nI j) (hj : j < 16) (hdg : decode cc pc = .ok (.aaload, 1))
    (kk : W p l e R s m args below meth c H locs 0 0 Q (F0 m (pc + 1) ls (.ref (ad (20 + j)) :: rest))) : W p l e R s m args below meth c H locs 0 0 Q (F0 m pc ls (.int i :: .ref (ad 2) :: rest)) :=
  kx_ald C0 hP (k := 2) (t0 := 4) (C := RE) (by omega) rfl rfl rfl hi hj (by omega) (plA_in hj) hdg kk
theorem xA_O (C0 : kx_C p s m args meth c cc ret maxL own D (kx_tys cA) 36 ad) (hP : va_P D classes (kw_W 36 ad (wX cA ad σ)) H) {i : Int32} (j : Nat) (hi : i = nI j) (hj : j < 16) (hdg : decode cc pc = .ok (.aaload, 1))
    (kk : W p l e R s m args below meth c H locs 0 0 Q (F0 m (pc + 1) ls (.ref (ad (20 + σ.2 j)) :: rest))) : W p l e R s m args below meth c H locs 0 0 Q (F0 m pc ls (.int i :: .ref (ad 3) :: rest)) :=
  kx_ald C0 hP (k := 3) (t0 := 4) (C := RE) (by omega) rfl rfl rfl hi hj (by omega) (plA_in hj) hdg kk
theorem xA_Ost (C0 : kx_C p s m args meth c cc ret maxL own D (kx_tys cA) 36 ad) (hP : va_P D classes (kw_W 36 ad (wX cA ad σ)) H) (hS : va_S (kw_A 36 ad s.heap.size) s.heap H locs) {i : Int32} (j v : Nat) (hi : i = nI j) (hj : j < 16) (hv : v < 16) (hdg : decode cc pc = .ok (.aastore, 1))
    (kk : ∀ (H : Heap) (locs : List Loc), va_P D classes (kw_W 36 ad (wX cA ad (σ.1, fun k => if k = j then v else σ.2 k))) H → va_S (kw_A 36 ad s.heap.size) s.heap H locs → W p l e R s m args below meth c H locs 0 0 Q (F0 m (pc + 1) ls rest)) : W p l e R s m args below meth c H locs 0 0 Q (F0 m pc ls (.ref (ad (20 + v)) :: .int i :: .ref (ad 3) :: rest)) :=
  kx_ast C0 hP hS (k := 3) (t0 := 4) (k2 := 20 + v) (by omega) rfl rfl rfl hi hj (by omega) (by omega) wX_aE rfl rfl (wX_setO j v hj).1 (wX_setO j v hj).2 hdg kk
theorem xR_ld (C0 : kx_C p s m args meth c cc ret maxL own D (kx_tys cA) 36 ad) (hP : va_P D classes (kw_W 36 ad (wX cA ad σ)) H) {h : Nat} (hh : h < 4) {i : Int32} (j : Nat) (hi : i = nI j) (hj : j < 16) (hdg : decode cc pc = .ok (.iaload, 1))
    (kk : W p l e R s m args below meth c H locs 0 0 Q (F0 m (pc + 1) ls (.int (σ.1 (40 + h) j) :: rest))) : W p l e R s m args below meth c H locs 0 0 Q (F0 m pc ls (.int i :: .ref (ad (8 + h)) :: rest)) :=
  kx_ild C0 hP (k := 8 + h) (t0 := 0) (by omega) (wX_aR hh) rfl rfl hi hj (by omega) hdg kk
theorem xR_st (C0 : kx_C p s m args meth c cc ret maxL own D (kx_tys cA) 36 ad) (hP : va_P D classes (kw_W 36 ad (wX cA ad σ)) H) (hS : va_S (kw_A 36 ad s.heap.size) s.heap H locs) {h : Nat} (hh : h < 4) {i v : Int32} (j : Nat) (hi : i = nI j) (hj : j < 16) (hdg : decode cc pc = .ok (.iastore, 1))
    (kk : ∀ (H : Heap) (locs : List Loc), va_P D classes (kw_W 36 ad (wX cA ad (xs σ (40 + h) j v))) H → va_S (kw_A 36 ad s.heap.size) s.heap H locs → W p l e R s m args below meth c H locs 0 0 Q (F0 m (pc + 1) ls rest)) : W p l e R s m args below meth c H locs 0 0 Q (F0 m pc ls (.int v :: .int i :: .ref (ad (8 + h)) :: rest)) :=
  kx_ist C0 hP hS (k := 8 + h) (t0 := 0) (by omega) (wX_aR hh) rfl rfl hi hj (by omega) (wX_setR hh j v).1 (wX_setR hh j v).2 hdg kk
theorem mM_get (C0 : kx_C p s m args meth c cc ret maxL own D (kx_tys cA) 24 ad) (hP : va_P D classes (kw_W 24 ad (wM cA ad μ)) H) (j : Nat) (hj : j < 29) {index : Nat} {v : Value} (hl : Cond.fieldLink own index RM (FM j).2.1 (FM j).2.2.1 ∈ kw_T) (hv : (wM_M ad μ)[j]? = some v) (hdg : decode cc pc = .ok (.getfield index, 3))
    (kk : W p l e R s m args below meth c H locs 0 0 Q (F0 m (pc + 3) ls (v :: rest))) : W p l e R s m args below meth c H locs 0 0 Q (F0 m pc ls (.ref (ad 0) :: rest)) :=
  kx_get C0 hP (k := 0) (by omega) rfl rfl rfl inM j hj hl (FM_C j hj) hv hdg kk
def mcode (j : Nat) : Nat := if j = 6 then 30 else if j = 7 then 31 else if j = 16 then 32 else if j = 18 then 33 else if j = 23 then 34 else 35
theorem mM_put (C0 : kx_C p s m args meth c cc ret maxL own D (kx_tys cA) 24 ad) (hP : va_P D classes (kw_W 24 ad (wM cA ad μ)) H) (hS : va_S (kw_A 24 ad s.heap.size) s.heap H locs) (j : Nat) (hj : j = 6 ∨ j = 7 ∨ j = 16 ∨ j = 18 ∨ j = 23 ∨ j = 28) (f : Nat) (hf : f = mcode j) {index : Nat} {v : Int32} (hl : Cond.fieldLink own index RM (FM j).2.1 (FM j).2.2.1 ∈ kw_T) (hdg : decode cc pc = .ok (.putfield index, 3))
    (kk : ∀ (H : Heap) (locs : List Loc), va_P D classes (kw_W 24 ad (wM cA ad (upd2 μ f 0 v))) H → va_S (kw_A 24 ad s.heap.size) s.heap H locs → W p l e R s m args below meth c H locs 0 0 Q (F0 m (pc + 3) ls rest)) : W p l e R s m args below meth c H locs 0 0 Q (F0 m pc ls (.int v :: .ref (ad 0) :: rest)) := by
  subst hf
  refine kx_put C0 hP hS (k := 0) (by omega) rfl rfl rfl inM tM_ok nM j (by omega) hl (FM_C j (by omega)) (by rcases hj with rfl | rfl | rfl | rfl | rfl | rfl <;> rfl) (by rcases hj with rfl | rfl | rfl | rfl | rfl | rfl <;> rfl) (by rcases hj with rfl | rfl | rfl | rfl | rfl | rfl <;> rfl) (by simp [wM_M]; omega) ?_ ?_ hdg kk
  · rcases hj with rfl | rfl | rfl | rfl | rfl | rfl <;> simp [wM, wM_M, mcode, upd2_at]
  · intro i hi hne
    exact wM_same hi (by rcases hj with rfl | rfl | rfl | rfl | rfl | rfl <;> simp [mcode] <;> omega) (fun h => absurd h hne)
theorem mA_ld (C0 : kx_C p s m args meth c cc ret maxL own D (kx_tys cA) 24 ad) (hP : va_P D classes (kw_W 24 ad (wM cA ad μ)) H) (k : Nat) (hk : k < 24) (hk0 : k ≠ 0 ∧ k ≠ 11 ∧ k ≠ 14 ∧ k ≠ 19) (n : Nat) (hn : mlen k = n) {i : Int32} (j : Nat) (hi : i = nI j) (hj : j < n) (hdg : decode cc pc = .ok (.iaload, 1))
    (kk : W p l e R s m args below meth c H locs 0 0 Q (F0 m (pc + 1) ls (.int (μ k j) :: rest))) : W p l e R s m args below meth c H locs 0 0 Q (F0 m pc ls (.int i :: .ref (ad k) :: rest)) := by
  subst hn
  exact kx_ild C0 hP (k := k) (t0 := 0) (cA := cA 0) hk (by simp [wM, hk0.1, hk0.2.1, hk0.2.2.1, hk0.2.2.2]) rfl rfl hi hj (mlen_lt k) hdg kk
theorem mA_zld (C0 : kx_C p s m args meth c cc ret maxL own D (kx_tys cA) 24 ad) (hP : va_P D classes (kw_W 24 ad (wM cA ad μ)) H) (k : Nat) (hk0 : k = 14 ∨ k = 19) (n : Nat) (hn : mlen k = n) {i : Int32} (j : Nat) (hi : i = nI j) (hj : j < n) (hdg : decode cc pc = .ok (.baload, 1))
    (kk : W p l e R s m args below meth c H locs 0 0 Q (F0 m (pc + 1) ls (.int (μ k j) :: rest))) : W p l e R s m args below meth c H locs 0 0 Q (F0 m pc ls (.int i :: .ref (ad k) :: rest)) := by
  subst hn
  exact kx_zld C0 hP (k := k) (t0 := 2) (cA := cA 2) (by omega) (by rcases hk0 with rfl | rfl <;> simp [wM]) rfl rfl hi hj (mlen_lt k) hdg kk
theorem mA_lld (C0 : kx_C p s m args meth c cc ret maxL own D (kx_tys cA) 24 ad) (hP : va_P D classes (kw_W 24 ad (wM cA ad μ)) H) {i : Int32} (j : Nat) (hi : i = nI j) (hj : j < 16) (hdg : decode cc pc = .ok (.laload, 1))
    (kk : W p l e R s m args below meth c H locs 0 0 Q (F0 m (pc + 1) ls (.long (μ 11 j).toInt64 :: rest))) : W p l e R s m args below meth c H locs 0 0 Q (F0 m pc ls (.int i :: .ref (ad 11) :: rest)) :=
  kx_lld C0 hP (k := 11) (t0 := 1) (cA := cA 1) (f := fun i => (μ 11 i).toInt64) (by omega) rfl rfl rfl hi hj (by omega) hdg kk
theorem mA_st (C0 : kx_C p s m args meth c cc ret maxL own D (kx_tys cA) 24 ad) (hP : va_P D classes (kw_W 24 ad (wM cA ad μ)) H) (hS : va_S (kw_A 24 ad s.heap.size) s.heap H locs) (k : Nat) (hk : k < 24) (hk0 : k ≠ 0 ∧ k ≠ 11 ∧ k ≠ 14 ∧ k ≠ 19) (n : Nat) (hn : mlen k = n) {i v : Int32} (j : Nat) (hi : i = nI j) (hj : j < n) (hdg : decode cc pc = .ok (.iastore, 1))
    (kk : ∀ (H : Heap) (locs : List Loc), va_P D classes (kw_W 24 ad (wM cA ad (upd2 μ k j v))) H → va_S (kw_A 24 ad s.heap.size) s.heap H locs → W p l e R s m args below meth c H locs 0 0 Q (F0 m (pc + 1) ls rest)) : W p l e R s m args below meth c H locs 0 0 Q (F0 m pc ls (.int v :: .int i :: .ref (ad k) :: rest)) := by
  subst hn
  exact kx_ist C0 hP hS (k := k) (t0 := 0) (cA := cA 0) (f := μ k) hk (by simp [wM, hk0.1, hk0.2.1, hk0.2.2.1, hk0.2.2.2]) rfl rfl hi hj (mlen_lt k) (by simp [wM, hk0.1, hk0.2.1, hk0.2.2.1, hk0.2.2.2, upd2_u]) (fun q hq hne => wM_same hq hne (fun _ => hk)) hdg kk
theorem mA_zst (C0 : kx_C p s m args meth c cc ret maxL own D (kx_tys cA) 24 ad) (hP : va_P D classes (kw_W 24 ad (wM cA ad μ)) H) (hS : va_S (kw_A 24 ad s.heap.size) s.heap H locs) (k : Nat) (hk0 : k = 14 ∨ k = 19) (n : Nat) (hn : mlen k = n) {i v : Int32} (hv : v = 0 ∨ v = 1) (j : Nat) (hi : i = nI j) (hj : j < n) (hdg : decode cc pc = .ok (.bastore, 1))
    (kk : ∀ (H : Heap) (locs : List Loc), va_P D classes (kw_W 24 ad (wM cA ad (upd2 μ k j v))) H → va_S (kw_A 24 ad s.heap.size) s.heap H locs → W p l e R s m args below meth c H locs 0 0 Q (F0 m (pc + 1) ls rest)) : W p l e R s m args below meth c H locs 0 0 Q (F0 m pc ls (.int v :: .int i :: .ref (ad k) :: rest)) := by
  subst hn
  exact kx_zst C0 hP hS (k := k) (t0 := 2) (cA := cA 2) (f := μ k) (by omega) (by rcases hk0 with rfl | rfl <;> simp [wM]) rfl rfl hi hj (mlen_lt k) hv (by rcases hk0 with rfl | rfl <;> simp [wM, upd2_u]) (fun q hq hne => wM_same hq hne (fun _ => by omega)) hdg kk
theorem mA_lst (C0 : kx_C p s m args meth c cc ret maxL own D (kx_tys cA) 24 ad) (hP : va_P D classes (kw_W 24 ad (wM cA ad μ)) H) (hS : va_S (kw_A 24 ad s.heap.size) s.heap H locs) {i v : Int32} {x : Int64} (hx : x = v.toInt64) (j : Nat) (hi : i = nI j) (hj : j < 16) (hdg : decode cc pc = .ok (.lastore, 1))
    (kk : ∀ (H : Heap) (locs : List Loc), va_P D classes (kw_W 24 ad (wM cA ad (upd2 μ 11 j v))) H → va_S (kw_A 24 ad s.heap.size) s.heap H locs → W p l e R s m args below meth c H locs 0 0 Q (F0 m (pc + 1) ls rest)) : W p l e R s m args below meth c H locs 0 0 Q (F0 m pc ls (.long x :: .int i :: .ref (ad 11) :: rest)) := by
  subst hx
  refine kx_lst C0 hP hS (k := 11) (t0 := 1) (cA := cA 1) (f := fun i => (μ 11 i).toInt64) (by omega) rfl rfl rfl hi hj (by omega) ?_ (fun q hq hne => wM_same hq hne (fun _ => by omega)) hdg kk
  simp only [wM, if_neg (show ¬ (11 : Nat) = 0 by omega), if_true]
  congr 5
  funext q
  simp only [upd2_at, vp_updL, true_and]
  split <;> rfl
end WR
