-- ===== PART A: goes FIRST, ahead of the names: the tables' words, and 'selects' of the private methods out of them =====
/-- a private method of a class that the tables say can be made, by its rows of tables_1 -/
def lw_okq (q : MethodName × Nat) : Prop := (q.1.cls ≠ "java/lang/invoke/MethodHandle" ∧ q.1.cls ≠ "java/lang/invoke/VarHandle") ∧ Cond.instantiable q.1.cls q.2 ∈ tables_1 ∧ Cond.privateMethod q.1 ∈ tables_1 ∧ Cond.instanceMethod q.1 ∈ tables_1
theorem lw_p0 : lw_okq (⟨"PluginBoundary", "isThere", "(I)Z"⟩, 9) := ⟨⟨by decide +kernel, by decide +kernel⟩, List.mem_of_getElem? (i := 8) (by decide +kernel), List.mem_of_getElem? (i := 159) (by decide +kernel), List.mem_of_getElem? (i := 160) (by decide +kernel)⟩
theorem lw_p1 : lw_okq (⟨"PluginBoundary", "putInOrder", "(LPluginBoundary$Extension;)V"⟩, 9) := ⟨⟨by decide +kernel, by decide +kernel⟩, List.mem_of_getElem? (i := 8) (by decide +kernel), List.mem_of_getElem? (i := 188) (by decide +kernel), List.mem_of_getElem? (i := 189) (by decide +kernel)⟩
theorem lw_p2 : lw_okq (⟨"PluginBoundary", "startPlugin", "(LPluginBoundary$Plugin;)I"⟩, 9) := ⟨⟨by decide +kernel, by decide +kernel⟩, List.mem_of_getElem? (i := 8) (by decide +kernel), List.mem_of_getElem? (i := 199) (by decide +kernel), List.mem_of_getElem? (i := 200) (by decide +kernel)⟩
theorem lw_p3 : lw_okq (⟨"PluginBoundary", "startNeeds", "(LPluginBoundary$Plugin;)I"⟩, 9) := ⟨⟨by decide +kernel, by decide +kernel⟩, List.mem_of_getElem? (i := 8) (by decide +kernel), List.mem_of_getElem? (i := 203) (by decide +kernel), List.mem_of_getElem? (i := 204) (by decide +kernel)⟩
theorem lw_p4 : lw_okq (⟨"PluginBoundary", "activate", "(LPluginBoundary$Plugin;)V"⟩, 9) := ⟨⟨by decide +kernel, by decide +kernel⟩, List.mem_of_getElem? (i := 8) (by decide +kernel), List.mem_of_getElem? (i := 207) (by decide +kernel), List.mem_of_getElem? (i := 208) (by decide +kernel)⟩
theorem lw_p5 : lw_okq (⟨"PluginBoundary", "stopPlugin", "(LPluginBoundary$Plugin;)I"⟩, 9) := ⟨⟨by decide +kernel, by decide +kernel⟩, List.mem_of_getElem? (i := 8) (by decide +kernel), List.mem_of_getElem? (i := 219) (by decide +kernel), List.mem_of_getElem? (i := 220) (by decide +kernel)⟩
theorem lw_p6 : lw_okq (⟨"PluginBoundary", "stopThoseThatRequire", "(LPluginBoundary$Plugin;)I"⟩, 9) := ⟨⟨by decide +kernel, by decide +kernel⟩, List.mem_of_getElem? (i := 8) (by decide +kernel), List.mem_of_getElem? (i := 223) (by decide +kernel), List.mem_of_getElem? (i := 224) (by decide +kernel)⟩
theorem lw_p7 : lw_okq (⟨"PluginBoundary", "lastStartedThatRequires", "(LPluginBoundary$Plugin;)LPluginBoundary$Plugin;"⟩, 9) := ⟨⟨by decide +kernel, by decide +kernel⟩, List.mem_of_getElem? (i := 8) (by decide +kernel), List.mem_of_getElem? (i := 227) (by decide +kernel), List.mem_of_getElem? (i := 228) (by decide +kernel)⟩
theorem lw_p8 : lw_okq (⟨"PluginBoundary", "activePlugins", "()I"⟩, 9) := ⟨⟨by decide +kernel, by decide +kernel⟩, List.mem_of_getElem? (i := 8) (by decide +kernel), List.mem_of_getElem? (i := 235) (by decide +kernel), List.mem_of_getElem? (i := 236) (by decide +kernel)⟩
theorem lw_p9 : lw_okq (⟨"PluginBoundary", "callPoint", "(III)I"⟩, 9) := ⟨⟨by decide +kernel, by decide +kernel⟩, List.mem_of_getElem? (i := 8) (by decide +kernel), List.mem_of_getElem? (i := 243) (by decide +kernel), List.mem_of_getElem? (i := 244) (by decide +kernel)⟩
theorem lw_p10 : lw_okq (⟨"PluginBoundary", "isLiveAt", "(LPluginBoundary$Extension;I)Z"⟩, 9) := ⟨⟨by decide +kernel, by decide +kernel⟩, List.mem_of_getElem? (i := 8) (by decide +kernel), List.mem_of_getElem? (i := 247) (by decide +kernel), List.mem_of_getElem? (i := 248) (by decide +kernel)⟩
theorem lw_p11 : lw_okq (⟨"PluginBoundary", "isLive", "(LPluginBoundary$Extension;)Z"⟩, 9) := ⟨⟨by decide +kernel, by decide +kernel⟩, List.mem_of_getElem? (i := 8) (by decide +kernel), List.mem_of_getElem? (i := 251) (by decide +kernel), List.mem_of_getElem? (i := 252) (by decide +kernel)⟩
theorem lw_p12 : lw_okq (⟨"PluginBoundary", "passThrough", "(LPluginBoundary$Extension;II)I"⟩, 9) := ⟨⟨by decide +kernel, by decide +kernel⟩, List.mem_of_getElem? (i := 8) (by decide +kernel), List.mem_of_getElem? (i := 259) (by decide +kernel), List.mem_of_getElem? (i := 260) (by decide +kernel)⟩
theorem lw_p13 : lw_okq (⟨"PluginBoundary", "divide", "(LPluginBoundary$Extension;I)I"⟩, 9) := ⟨⟨by decide +kernel, by decide +kernel⟩, List.mem_of_getElem? (i := 8) (by decide +kernel), List.mem_of_getElem? (i := 263) (by decide +kernel), List.mem_of_getElem? (i := 264) (by decide +kernel)⟩
theorem lw_p14 : lw_okq (⟨"PluginBoundary", "faulted", "(LPluginBoundary$Extension;III)I"⟩, 9) := ⟨⟨by decide +kernel, by decide +kernel⟩, List.mem_of_getElem? (i := 8) (by decide +kernel), List.mem_of_getElem? (i := 267) (by decide +kernel), List.mem_of_getElem? (i := 268) (by decide +kernel)⟩
theorem lw_p15 : lw_okq (⟨"PluginBoundary", "look", "(LPluginBoundary$Extension;I)I"⟩, 9) := ⟨⟨by decide +kernel, by decide +kernel⟩, List.mem_of_getElem? (i := 8) (by decide +kernel), List.mem_of_getElem? (i := 271) (by decide +kernel), List.mem_of_getElem? (i := 272) (by decide +kernel)⟩
def lw_privs_1 : List (MethodName × Nat) := [(⟨"PluginBoundary", "isThere", "(I)Z"⟩, 9), (⟨"PluginBoundary", "putInOrder", "(LPluginBoundary$Extension;)V"⟩, 9), (⟨"PluginBoundary", "startPlugin", "(LPluginBoundary$Plugin;)I"⟩, 9), (⟨"PluginBoundary", "startNeeds", "(LPluginBoundary$Plugin;)I"⟩, 9), (⟨"PluginBoundary", "activate", "(LPluginBoundary$Plugin;)V"⟩, 9), (⟨"PluginBoundary", "stopPlugin", "(LPluginBoundary$Plugin;)I"⟩, 9), (⟨"PluginBoundary", "stopThoseThatRequire", "(LPluginBoundary$Plugin;)I"⟩, 9), (⟨"PluginBoundary", "lastStartedThatRequires", "(LPluginBoundary$Plugin;)LPluginBoundary$Plugin;"⟩, 9), (⟨"PluginBoundary", "activePlugins", "()I"⟩, 9), (⟨"PluginBoundary", "callPoint", "(III)I"⟩, 9), (⟨"PluginBoundary", "isLiveAt", "(LPluginBoundary$Extension;I)Z"⟩, 9), (⟨"PluginBoundary", "isLive", "(LPluginBoundary$Extension;)Z"⟩, 9), (⟨"PluginBoundary", "passThrough", "(LPluginBoundary$Extension;II)I"⟩, 9), (⟨"PluginBoundary", "divide", "(LPluginBoundary$Extension;I)I"⟩, 9), (⟨"PluginBoundary", "faulted", "(LPluginBoundary$Extension;III)I"⟩, 9), (⟨"PluginBoundary", "look", "(LPluginBoundary$Extension;I)I"⟩, 9)]
theorem lw_r1 : ∀ q ∈ lw_privs_1, lw_okq q := List.forall_mem_cons.mpr ⟨lw_p0, List.forall_mem_cons.mpr ⟨lw_p1, List.forall_mem_cons.mpr ⟨lw_p2, List.forall_mem_cons.mpr ⟨lw_p3, List.forall_mem_cons.mpr ⟨lw_p4, List.forall_mem_cons.mpr ⟨lw_p5, List.forall_mem_cons.mpr ⟨lw_p6, List.forall_mem_cons.mpr ⟨lw_p7, List.forall_mem_cons.mpr ⟨lw_p8, List.forall_mem_cons.mpr ⟨lw_p9, List.forall_mem_cons.mpr ⟨lw_p10, List.forall_mem_cons.mpr ⟨lw_p11, List.forall_mem_cons.mpr ⟨lw_p12, List.forall_mem_cons.mpr ⟨lw_p13, List.forall_mem_cons.mpr ⟨lw_p14, List.forall_mem_cons.mpr ⟨lw_p15, fun _ h => absurd h List.not_mem_nil⟩⟩⟩⟩⟩⟩⟩⟩⟩⟩⟩⟩⟩⟩⟩⟩
theorem lw_p16 : lw_okq (⟨"PluginBoundary", "ask", "(LPluginBoundary$Extension;I)I"⟩, 9) := ⟨⟨by decide +kernel, by decide +kernel⟩, List.mem_of_getElem? (i := 8) (by decide +kernel), List.mem_of_getElem? (i := 277) (by decide +kernel), List.mem_of_getElem? (i := 278) (by decide +kernel)⟩
theorem lw_p17 : lw_okq (⟨"PluginBoundary", "nest", "(LPluginBoundary$Extension;II)I"⟩, 9) := ⟨⟨by decide +kernel, by decide +kernel⟩, List.mem_of_getElem? (i := 8) (by decide +kernel), List.mem_of_getElem? (i := 281) (by decide +kernel), List.mem_of_getElem? (i := 282) (by decide +kernel)⟩
theorem lw_p18 : lw_okq (⟨"PluginBoundary", "bracket", "(LPluginBoundary$Extension;I)I"⟩, 9) := ⟨⟨by decide +kernel, by decide +kernel⟩, List.mem_of_getElem? (i := 8) (by decide +kernel), List.mem_of_getElem? (i := 285) (by decide +kernel), List.mem_of_getElem? (i := 286) (by decide +kernel)⟩
theorem lw_p19 : lw_okq (⟨"PluginBoundary", "isExtension", "(I)Z"⟩, 9) := ⟨⟨by decide +kernel, by decide +kernel⟩, List.mem_of_getElem? (i := 8) (by decide +kernel), List.mem_of_getElem? (i := 293) (by decide +kernel), List.mem_of_getElem? (i := 294) (by decide +kernel)⟩
theorem lw_p20 : lw_okq (⟨"PluginBoundary", "standing", "(LPluginBoundary$Extension;)I"⟩, 9) := ⟨⟨by decide +kernel, by decide +kernel⟩, List.mem_of_getElem? (i := 8) (by decide +kernel), List.mem_of_getElem? (i := 305) (by decide +kernel), List.mem_of_getElem? (i := 306) (by decide +kernel)⟩
theorem lw_p21 : lw_okq (⟨"PluginBoundary", "shutOutExtensions", "()I"⟩, 9) := ⟨⟨by decide +kernel, by decide +kernel⟩, List.mem_of_getElem? (i := 8) (by decide +kernel), List.mem_of_getElem? (i := 342) (by decide +kernel), List.mem_of_getElem? (i := 343) (by decide +kernel)⟩
theorem lw_p22 : lw_okq (⟨"PluginBoundaryModel", "gone", "(I)Z"⟩, 29) := ⟨⟨by decide +kernel, by decide +kernel⟩, List.mem_of_getElem? (i := 346) (by decide +kernel), List.mem_of_getElem? (i := 457) (by decide +kernel), List.mem_of_getElem? (i := 458) (by decide +kernel)⟩
theorem lw_p23 : lw_okq (⟨"PluginBoundaryModel", "started", "(I)I"⟩, 29) := ⟨⟨by decide +kernel, by decide +kernel⟩, List.mem_of_getElem? (i := 346) (by decide +kernel), List.mem_of_getElem? (i := 477) (by decide +kernel), List.mem_of_getElem? (i := 478) (by decide +kernel)⟩
theorem lw_p24 : lw_okq (⟨"PluginBoundaryModel", "beginStart", "(I)I"⟩, 29) := ⟨⟨by decide +kernel, by decide +kernel⟩, List.mem_of_getElem? (i := 346) (by decide +kernel), List.mem_of_getElem? (i := 481) (by decide +kernel), List.mem_of_getElem? (i := 482) (by decide +kernel)⟩
theorem lw_p25 : lw_okq (⟨"PluginBoundaryModel", "tell", "(I)V"⟩, 29) := ⟨⟨by decide +kernel, by decide +kernel⟩, List.mem_of_getElem? (i := 346) (by decide +kernel), List.mem_of_getElem? (i := 485) (by decide +kernel), List.mem_of_getElem? (i := 486) (by decide +kernel)⟩
theorem lw_p26 : lw_okq (⟨"PluginBoundaryModel", "lastNeeding", "(I)I"⟩, 29) := ⟨⟨by decide +kernel, by decide +kernel⟩, List.mem_of_getElem? (i := 346) (by decide +kernel), List.mem_of_getElem? (i := 493) (by decide +kernel), List.mem_of_getElem? (i := 494) (by decide +kernel)⟩
theorem lw_p27 : lw_okq (⟨"PluginBoundaryModel", "active", "()I"⟩, 29) := ⟨⟨by decide +kernel, by decide +kernel⟩, List.mem_of_getElem? (i := 346) (by decide +kernel), List.mem_of_getElem? (i := 501) (by decide +kernel), List.mem_of_getElem? (i := 502) (by decide +kernel)⟩
theorem lw_p28 : lw_okq (⟨"PluginBoundaryModel", "beginCall", "(II)V"⟩, 29) := ⟨⟨by decide +kernel, by decide +kernel⟩, List.mem_of_getElem? (i := 346) (by decide +kernel), List.mem_of_getElem? (i := 509) (by decide +kernel), List.mem_of_getElem? (i := 510) (by decide +kernel)⟩
theorem lw_p29 : lw_okq (⟨"PluginBoundaryModel", "ordered", "(II)I"⟩, 29) := ⟨⟨by decide +kernel, by decide +kernel⟩, List.mem_of_getElem? (i := 346) (by decide +kernel), List.mem_of_getElem? (i := 513) (by decide +kernel), List.mem_of_getElem? (i := 514) (by decide +kernel)⟩
theorem lw_p30 : lw_okq (⟨"PluginBoundaryModel", "live", "(I)Z"⟩, 29) := ⟨⟨by decide +kernel, by decide +kernel⟩, List.mem_of_getElem? (i := 346) (by decide +kernel), List.mem_of_getElem? (i := 517) (by decide +kernel), List.mem_of_getElem? (i := 518) (by decide +kernel)⟩
theorem lw_p31 : lw_okq (⟨"PluginBoundaryModel", "done", "(I)I"⟩, 29) := ⟨⟨by decide +kernel, by decide +kernel⟩, List.mem_of_getElem? (i := 346) (by decide +kernel), List.mem_of_getElem? (i := 521) (by decide +kernel), List.mem_of_getElem? (i := 522) (by decide +kernel)⟩
def lw_privs_2 : List (MethodName × Nat) := [(⟨"PluginBoundary", "ask", "(LPluginBoundary$Extension;I)I"⟩, 9), (⟨"PluginBoundary", "nest", "(LPluginBoundary$Extension;II)I"⟩, 9), (⟨"PluginBoundary", "bracket", "(LPluginBoundary$Extension;I)I"⟩, 9), (⟨"PluginBoundary", "isExtension", "(I)Z"⟩, 9), (⟨"PluginBoundary", "standing", "(LPluginBoundary$Extension;)I"⟩, 9), (⟨"PluginBoundary", "shutOutExtensions", "()I"⟩, 9), (⟨"PluginBoundaryModel", "gone", "(I)Z"⟩, 29), (⟨"PluginBoundaryModel", "started", "(I)I"⟩, 29), (⟨"PluginBoundaryModel", "beginStart", "(I)I"⟩, 29), (⟨"PluginBoundaryModel", "tell", "(I)V"⟩, 29), (⟨"PluginBoundaryModel", "lastNeeding", "(I)I"⟩, 29), (⟨"PluginBoundaryModel", "active", "()I"⟩, 29), (⟨"PluginBoundaryModel", "beginCall", "(II)V"⟩, 29), (⟨"PluginBoundaryModel", "ordered", "(II)I"⟩, 29), (⟨"PluginBoundaryModel", "live", "(I)Z"⟩, 29), (⟨"PluginBoundaryModel", "done", "(I)I"⟩, 29)]
theorem lw_r2 : ∀ q ∈ lw_privs_2, lw_okq q := List.forall_mem_cons.mpr ⟨lw_p16, List.forall_mem_cons.mpr ⟨lw_p17, List.forall_mem_cons.mpr ⟨lw_p18, List.forall_mem_cons.mpr ⟨lw_p19, List.forall_mem_cons.mpr ⟨lw_p20, List.forall_mem_cons.mpr ⟨lw_p21, List.forall_mem_cons.mpr ⟨lw_p22, List.forall_mem_cons.mpr ⟨lw_p23, List.forall_mem_cons.mpr ⟨lw_p24, List.forall_mem_cons.mpr ⟨lw_p25, List.forall_mem_cons.mpr ⟨lw_p26, List.forall_mem_cons.mpr ⟨lw_p27, List.forall_mem_cons.mpr ⟨lw_p28, List.forall_mem_cons.mpr ⟨lw_p29, List.forall_mem_cons.mpr ⟨lw_p30, List.forall_mem_cons.mpr ⟨lw_p31, fun _ h => absurd h List.not_mem_nil⟩⟩⟩⟩⟩⟩⟩⟩⟩⟩⟩⟩⟩⟩⟩⟩
theorem lw_p32 : lw_okq (⟨"PluginBoundaryModel", "divided", "(II)I"⟩, 29) := ⟨⟨by decide +kernel, by decide +kernel⟩, List.mem_of_getElem? (i := 346) (by decide +kernel), List.mem_of_getElem? (i := 525) (by decide +kernel), List.mem_of_getElem? (i := 526) (by decide +kernel)⟩
theorem lw_p33 : lw_okq (⟨"PluginBoundaryModel", "looked", "(I)I"⟩, 29) := ⟨⟨by decide +kernel, by decide +kernel⟩, List.mem_of_getElem? (i := 346) (by decide +kernel), List.mem_of_getElem? (i := 529) (by decide +kernel), List.mem_of_getElem? (i := 530) (by decide +kernel)⟩
theorem lw_p34 : lw_okq (⟨"PluginBoundaryModel", "asked", "(II)I"⟩, 29) := ⟨⟨by decide +kernel, by decide +kernel⟩, List.mem_of_getElem? (i := 346) (by decide +kernel), List.mem_of_getElem? (i := 536) (by decide +kernel), List.mem_of_getElem? (i := 537) (by decide +kernel)⟩
theorem lw_p35 : lw_okq (⟨"PluginBoundaryModel", "fail", "(II)V"⟩, 29) := ⟨⟨by decide +kernel, by decide +kernel⟩, List.mem_of_getElem? (i := 346) (by decide +kernel), List.mem_of_getElem? (i := 540) (by decide +kernel), List.mem_of_getElem? (i := 541) (by decide +kernel)⟩
theorem lw_p36 : lw_okq (⟨"PluginBoundaryModel", "noExtension", "(I)Z"⟩, 29) := ⟨⟨by decide +kernel, by decide +kernel⟩, List.mem_of_getElem? (i := 346) (by decide +kernel), List.mem_of_getElem? (i := 548) (by decide +kernel), List.mem_of_getElem? (i := 549) (by decide +kernel)⟩
def lw_privs_3 : List (MethodName × Nat) := [(⟨"PluginBoundaryModel", "divided", "(II)I"⟩, 29), (⟨"PluginBoundaryModel", "looked", "(I)I"⟩, 29), (⟨"PluginBoundaryModel", "asked", "(II)I"⟩, 29), (⟨"PluginBoundaryModel", "fail", "(II)V"⟩, 29), (⟨"PluginBoundaryModel", "noExtension", "(I)Z"⟩, 29)]
theorem lw_r3 : ∀ q ∈ lw_privs_3, lw_okq q := List.forall_mem_cons.mpr ⟨lw_p32, List.forall_mem_cons.mpr ⟨lw_p33, List.forall_mem_cons.mpr ⟨lw_p34, List.forall_mem_cons.mpr ⟨lw_p35, List.forall_mem_cons.mpr ⟨lw_p36, fun _ h => absurd h List.not_mem_nil⟩⟩⟩⟩⟩
def lw_privs : List (MethodName × Nat) := lw_privs_1 ++ (lw_privs_2 ++ (lw_privs_3))
def lw_tbl : List Cond := k2_sels lw_privs ++ tables_1
theorem lw_privs_ok : ∀ q ∈ lw_privs, lw_okq q := by
  show ∀ q ∈ lw_privs_1 ++ (lw_privs_2 ++ (lw_privs_3)), lw_okq q
  exact List.forall_mem_append.mpr ⟨lw_r1, List.forall_mem_append.mpr ⟨lw_r2, lw_r3⟩⟩

def RE : String := "PluginBoundary$Extension"
def RH : String := "PluginBoundary$History"
def RP : String := "PluginBoundary$Plugin"
def RX : String := "PluginBoundary"
def RM : String := "PluginBoundaryModel"
def RL : String := "PluginBoundaryLaw"
def RI : String := "java/lang/Integer"
def FE : u_T := fun k => match k with
  | 0 => ("PluginBoundary$Extension", "number", "I", true)
  | 1 => ("PluginBoundary$Extension", "present", "Z", false)
  | 2 => ("PluginBoundary$Extension", "plugin", "I", false)
  | 3 => ("PluginBoundary$Extension", "point", "I", false)
  | 4 => ("PluginBoundary$Extension", "kind", "I", false)
  | 5 => ("PluginBoundary$Extension", "p", "I", false)
  | 6 => ("PluginBoundary$Extension", "ordinal", "D", false)
  | 7 => ("PluginBoundary$Extension", "faults", "I", false)
  | _ => ("PluginBoundary$Extension", "calls", "I", false)
def tE : Nat → FieldType := fun k => match k with
  | 0 => .int
  | 1 => .boolean
  | 2 => .int
  | 3 => .int
  | 4 => .int
  | 5 => .int
  | 6 => .double
  | 7 => .int
  | _ => .int
theorem nE : ∀ a, a < 9 → ∀ b, b < 9 → a ≠ b → (FE a).2.1 ≠ (FE b).2.1 := by decide +kernel
theorem tE_ok : ∀ k, k < 9 → parseFieldDescriptor (FE k).2.2.1 = some (tE k) := by decide +kernel
set_option maxRecDepth 20000 in
theorem inE_t : ∀ w ∈ u_ws RE FE 9, w ∈ lw_tbl := by decide +kernel
theorem inE_g : ∀ w ∈ u_ws RE FE 9, goodWord w = true := by decide +kernel
def FH : u_T := fun k => match k with
  | 0 => ("PluginBoundary$History", "row", "[I", true)
  | 1 => ("PluginBoundary$History", "kept", "I", true)
  | _ => ("PluginBoundary$History", "noted", "I", false)
def tH : Nat → FieldType := fun k => match k with
  | 0 => .array .int
  | 1 => .int
  | _ => .int
theorem nH : ∀ a, a < 3 → ∀ b, b < 3 → a ≠ b → (FH a).2.1 ≠ (FH b).2.1 := by decide +kernel
theorem tH_ok : ∀ k, k < 3 → parseFieldDescriptor (FH k).2.2.1 = some (tH k) := by decide +kernel
set_option maxRecDepth 20000 in
theorem inH_t : ∀ w ∈ u_ws RH FH 3, w ∈ lw_tbl := by decide +kernel
theorem inH_g : ∀ w ∈ u_ws RH FH 3, goodWord w = true := by decide +kernel
def FP : u_T := fun k => match k with
  | 0 => ("PluginBoundary$Plugin", "number", "I", true)
  | 1 => ("PluginBoundary$Plugin", "state", "I", false)
  | 2 => ("PluginBoundary$Plugin", "required", "I", false)
  | 3 => ("PluginBoundary$Plugin", "wished", "I", false)
  | 4 => ("PluginBoundary$Plugin", "service", "I", false)
  | 5 => ("PluginBoundary$Plugin", "value", "I", false)
  | 6 => ("PluginBoundary$Plugin", "startedAs", "I", false)
  | 7 => ("PluginBoundary$Plugin", "starting", "Z", false)
  | _ => ("PluginBoundary$Plugin", "stopping", "Z", false)
def tP : Nat → FieldType := fun k => match k with
  | 0 => .int
  | 1 => .int
  | 2 => .int
  | 3 => .int
  | 4 => .int
  | 5 => .int
  | 6 => .int
  | 7 => .boolean
  | _ => .boolean
theorem nP : ∀ a, a < 9 → ∀ b, b < 9 → a ≠ b → (FP a).2.1 ≠ (FP b).2.1 := by decide +kernel
theorem tP_ok : ∀ k, k < 9 → parseFieldDescriptor (FP k).2.2.1 = some (tP k) := by decide +kernel
set_option maxRecDepth 20000 in
theorem inP_t : ∀ w ∈ u_ws RP FP 9, w ∈ lw_tbl := by decide +kernel
theorem inP_g : ∀ w ∈ u_ws RP FP 9, goodWord w = true := by decide +kernel
def FX : u_T := fun k => match k with
  | 0 => ("PluginBoundary", "plugins", "[LPluginBoundary$Plugin;", true)
  | 1 => ("PluginBoundary", "extensions", "[LPluginBoundary$Extension;", true)
  | 2 => ("PluginBoundary", "order", "[LPluginBoundary$Extension;", true)
  | 3 => ("PluginBoundary", "events", "LPluginBoundary$History;", true)
  | 4 => ("PluginBoundary", "faultExtensions", "LPluginBoundary$History;", true)
  | 5 => ("PluginBoundary", "faultKinds", "LPluginBoundary$History;", true)
  | 6 => ("PluginBoundary", "faultProviders", "LPluginBoundary$History;", true)
  | 7 => ("PluginBoundary", "made", "I", false)
  | _ => ("PluginBoundary", "starts", "I", false)
def tX : Nat → FieldType := fun k => match k with
  | 0 => .array (.object "PluginBoundary$Plugin")
  | 1 => .array (.object "PluginBoundary$Extension")
  | 2 => .array (.object "PluginBoundary$Extension")
  | 3 => .object "PluginBoundary$History"
  | 4 => .object "PluginBoundary$History"
  | 5 => .object "PluginBoundary$History"
  | 6 => .object "PluginBoundary$History"
  | 7 => .int
  | _ => .int
theorem nX : ∀ a, a < 9 → ∀ b, b < 9 → a ≠ b → (FX a).2.1 ≠ (FX b).2.1 := by decide +kernel
theorem tX_ok : ∀ k, k < 9 → parseFieldDescriptor (FX k).2.2.1 = some (tX k) := by decide +kernel
set_option maxRecDepth 20000 in
theorem inX_t : ∀ w ∈ u_ws RX FX 9, w ∈ lw_tbl := by decide +kernel
theorem inX_g : ∀ w ∈ u_ws RX FX 9, goodWord w = true := by decide +kernel
def FM : u_T := fun k => match k with
  | 0 => ("PluginBoundaryModel", "state", "[I", true)
  | 1 => ("PluginBoundaryModel", "needs", "[I", true)
  | 2 => ("PluginBoundaryModel", "wishes", "[I", true)
  | 3 => ("PluginBoundaryModel", "served", "[I", true)
  | 4 => ("PluginBoundaryModel", "service", "[I", true)
  | 5 => ("PluginBoundaryModel", "since", "[I", true)
  | 6 => ("PluginBoundaryModel", "clock", "I", false)
  | 7 => ("PluginBoundaryModel", "made", "I", false)
  | 8 => ("PluginBoundaryModel", "plugin", "[I", true)
  | 9 => ("PluginBoundaryModel", "point", "[I", true)
  | 10 => ("PluginBoundaryModel", "kind", "[I", true)
  | 11 => ("PluginBoundaryModel", "parameter", "[I", true)
  | 12 => ("PluginBoundaryModel", "eighths", "[J", true)
  | 13 => ("PluginBoundaryModel", "faults", "[I", true)
  | 14 => ("PluginBoundaryModel", "calls", "[I", true)
  | 15 => ("PluginBoundaryModel", "shut", "[Z", true)
  | 16 => ("PluginBoundaryModel", "noted", "I", false)
  | 17 => ("PluginBoundaryModel", "note", "[I", true)
  | 18 => ("PluginBoundaryModel", "events", "I", false)
  | 19 => ("PluginBoundaryModel", "event", "[I", true)
  | 20 => ("PluginBoundaryModel", "way", "[I", true)
  | 21 => ("PluginBoundaryModel", "at", "[I", true)
  | 22 => ("PluginBoundaryModel", "under", "[Z", true)
  | 23 => ("PluginBoundaryModel", "depth", "I", false)
  | 24 => ("PluginBoundaryModel", "value", "[I", true)
  | 25 => ("PluginBoundaryModel", "row", "[I", true)
  | 26 => ("PluginBoundaryModel", "length", "[I", true)
  | 27 => ("PluginBoundaryModel", "turn", "[I", true)
  | _ => ("PluginBoundaryModel", "provider", "I", false)
def tM : Nat → FieldType := fun k => match k with
  | 0 => .array .int
  | 1 => .array .int
  | 2 => .array .int
  | 3 => .array .int
  | 4 => .array .int
  | 5 => .array .int
  | 6 => .int
  | 7 => .int
  | 8 => .array .int
  | 9 => .array .int
  | 10 => .array .int
  | 11 => .array .int
  | 12 => .array .long
  | 13 => .array .int
  | 14 => .array .int
  | 15 => .array .boolean
  | 16 => .int
  | 17 => .array .int
  | 18 => .int
  | 19 => .array .int
  | 20 => .array .int
  | 21 => .array .int
  | 22 => .array .boolean
  | 23 => .int
  | 24 => .array .int
  | 25 => .array .int
  | 26 => .array .int
  | 27 => .array .int
  | _ => .int
theorem nM : ∀ a, a < 29 → ∀ b, b < 29 → a ≠ b → (FM a).2.1 ≠ (FM b).2.1 := by decide +kernel
theorem tM_ok : ∀ k, k < 29 → parseFieldDescriptor (FM k).2.2.1 = some (tM k) := by decide +kernel
set_option maxRecDepth 20000 in
theorem inM_t : ∀ w ∈ u_ws RM FM 29, w ∈ lw_tbl := by decide +kernel
theorem inM_g : ∀ w ∈ u_ws RM FM 29, goodWord w = true := by decide +kernel
abbrev classes : List vw_C := [(RE, FE, 9), (RH, FH, 3), (RP, FP, 9), (RX, FX, 9), (RM, FM, 29)]
abbrev bX_init : ByteArray := prog_1_method_1_code
def yX_init : MethodName := ⟨RX, "<init>", "()V"⟩
abbrev bH_init : ByteArray := prog_3_method_1_code
def yH_init : MethodName := ⟨RH, "<init>", "(I)V"⟩
abbrev bP_init : ByteArray := prog_4_method_1_code
def yP_init : MethodName := ⟨RP, "<init>", "(I)V"⟩
abbrev bE_init : ByteArray := prog_2_method_1_code
def yE_init : MethodName := ⟨RE, "<init>", "(I)V"⟩
abbrev bX_install : ByteArray := prog_1_method_2_code
def yX_install : MethodName := ⟨RX, "install", "(I)I"⟩
abbrev bX_isPlugin : ByteArray := prog_1_method_20_code
def yX_isPlugin : MethodName := ⟨RX, "isPlugin", "(I)Z"⟩
abbrev bX_uninstall : ByteArray := prog_1_method_3_code
def yX_uninstall : MethodName := ⟨RX, "uninstall", "(I)I"⟩
abbrev bP_clear : ByteArray := prog_4_method_4_code
def yP_clear : MethodName := ⟨RP, "clear", "()V"⟩
abbrev bX_need : ByteArray := prog_1_method_4_code
def yX_need : MethodName := ⟨RX, "need", "(IIZ)I"⟩
abbrev bX_isThere : ByteArray := prog_1_method_22_code
def yX_isThere : MethodName := ⟨RX, "isThere", "(I)Z"⟩
abbrev bP_requires : ByteArray := prog_4_method_2_code
def yP_requires : MethodName := ⟨RP, "requires", "(I)Z"⟩
abbrev bP_wishes : ByteArray := prog_4_method_3_code
def yP_wishes : MethodName := ⟨RP, "wishes", "(I)Z"⟩
abbrev bI_bitCount : ByteArray := prog_7_method_49_code
def yI_bitCount : MethodName := ⟨RI, "bitCount", "(I)I"⟩
abbrev bX_serve : ByteArray := prog_1_method_5_code
def yX_serve : MethodName := ⟨RX, "serve", "(III)I"⟩
abbrev bX_extend : ByteArray := prog_1_method_6_code
def yX_extend : MethodName := ⟨RX, "extend", "(IIIID)I"⟩
abbrev bX_isPoint : ByteArray := prog_1_method_21_code
def yX_isPoint : MethodName := ⟨RX, "isPoint", "(I)Z"⟩
abbrev bX_putInOrder : ByteArray := prog_1_method_29_code
def yX_putInOrder : MethodName := ⟨RX, "putInOrder", "(LPluginBoundary$Extension;)V"⟩
abbrev bX_comesBefore : ByteArray := prog_1_method_30_code
def yX_comesBefore : MethodName := ⟨RX, "comesBefore", "(DD)Z"⟩
abbrev bX_start : ByteArray := prog_1_method_7_code
def yX_start : MethodName := ⟨RX, "start", "(I)I"⟩
abbrev bX_startPlugin : ByteArray := prog_1_method_32_code
def yX_startPlugin : MethodName := ⟨RX, "startPlugin", "(LPluginBoundary$Plugin;)I"⟩
abbrev bX_startNeeds : ByteArray := prog_1_method_33_code
def yX_startNeeds : MethodName := ⟨RX, "startNeeds", "(LPluginBoundary$Plugin;)I"⟩
abbrev bX_activate : ByteArray := prog_1_method_34_code
def yX_activate : MethodName := ⟨RX, "activate", "(LPluginBoundary$Plugin;)V"⟩
abbrev bH_note : ByteArray := prog_3_method_2_code
def yH_note : MethodName := ⟨RH, "note", "(I)V"⟩
abbrev bX_stop : ByteArray := prog_1_method_8_code
def yX_stop : MethodName := ⟨RX, "stop", "(I)I"⟩
abbrev bX_stopPlugin : ByteArray := prog_1_method_35_code
def yX_stopPlugin : MethodName := ⟨RX, "stopPlugin", "(LPluginBoundary$Plugin;)I"⟩
abbrev bX_stopThoseThatRequire : ByteArray := prog_1_method_36_code
def yX_stopThoseThatRequire : MethodName := ⟨RX, "stopThoseThatRequire", "(LPluginBoundary$Plugin;)I"⟩
abbrev bX_lastStartedThatRequires : ByteArray := prog_1_method_37_code
def yX_lastStartedThatRequires : MethodName := ⟨RX, "lastStartedThatRequires", "(LPluginBoundary$Plugin;)LPluginBoundary$Plugin;"⟩
abbrev bX_startAll : ByteArray := prog_1_method_9_code
def yX_startAll : MethodName := ⟨RX, "startAll", "()I"⟩
abbrev bX_activePlugins : ByteArray := prog_1_method_27_code
def yX_activePlugins : MethodName := ⟨RX, "activePlugins", "()I"⟩
abbrev bX_call : ByteArray := prog_1_method_10_code
def yX_call : MethodName := ⟨RX, "call", "(II)I"⟩
abbrev bX_callPoint : ByteArray := prog_1_method_38_code
def yX_callPoint : MethodName := ⟨RX, "callPoint", "(III)I"⟩
abbrev bX_isLiveAt : ByteArray := prog_1_method_25_code
def yX_isLiveAt : MethodName := ⟨RX, "isLiveAt", "(LPluginBoundary$Extension;I)Z"⟩
abbrev bX_isLive : ByteArray := prog_1_method_24_code
def yX_isLive : MethodName := ⟨RX, "isLive", "(LPluginBoundary$Extension;)Z"⟩
abbrev bE_isShutOut : ByteArray := prog_2_method_2_code
def yE_isShutOut : MethodName := ⟨RE, "isShutOut", "()Z"⟩
abbrev bX_passThrough : ByteArray := prog_1_method_39_code
def yX_passThrough : MethodName := ⟨RX, "passThrough", "(LPluginBoundary$Extension;II)I"⟩
abbrev bX_divide : ByteArray := prog_1_method_40_code
def yX_divide : MethodName := ⟨RX, "divide", "(LPluginBoundary$Extension;I)I"⟩
abbrev bX_faulted : ByteArray := prog_1_method_45_code
def yX_faulted : MethodName := ⟨RX, "faulted", "(LPluginBoundary$Extension;III)I"⟩
abbrev bX_look : ByteArray := prog_1_method_41_code
def yX_look : MethodName := ⟨RX, "look", "(LPluginBoundary$Extension;I)I"⟩
abbrev bX_ask : ByteArray := prog_1_method_42_code
def yX_ask : MethodName := ⟨RX, "ask", "(LPluginBoundary$Extension;I)I"⟩
abbrev bX_nest : ByteArray := prog_1_method_43_code
def yX_nest : MethodName := ⟨RX, "nest", "(LPluginBoundary$Extension;II)I"⟩
abbrev bX_bracket : ByteArray := prog_1_method_44_code
def yX_bracket : MethodName := ⟨RX, "bracket", "(LPluginBoundary$Extension;I)I"⟩
abbrev bX_forgive : ByteArray := prog_1_method_11_code
def yX_forgive : MethodName := ⟨RX, "forgive", "(I)I"⟩
abbrev bX_isExtension : ByteArray := prog_1_method_23_code
def yX_isExtension : MethodName := ⟨RX, "isExtension", "(I)Z"⟩
abbrev bX_state : ByteArray := prog_1_method_12_code
def yX_state : MethodName := ⟨RX, "state", "(I)I"⟩
abbrev bX_extension : ByteArray := prog_1_method_13_code
def yX_extension : MethodName := ⟨RX, "extension", "(II)I"⟩
abbrev bX_standing : ByteArray := prog_1_method_26_code
def yX_standing : MethodName := ⟨RX, "standing", "(LPluginBoundary$Extension;)I"⟩
abbrev bX_at : ByteArray := prog_1_method_14_code
def yX_at : MethodName := ⟨RX, "at", "(II)I"⟩
abbrev bX_weight : ByteArray := prog_1_method_15_code
def yX_weight : MethodName := ⟨RX, "weight", "(I)D"⟩
abbrev bX_areOppositeInfinities : ByteArray := prog_1_method_31_code
def yX_areOppositeInfinities : MethodName := ⟨RX, "areOppositeInfinities", "(DD)Z"⟩
abbrev bX_ordinal : ByteArray := prog_1_method_16_code
def yX_ordinal : MethodName := ⟨RX, "ordinal", "(I)D"⟩
abbrev bX_fault : ByteArray := prog_1_method_17_code
def yX_fault : MethodName := ⟨RX, "fault", "(II)I"⟩
abbrev bH_last : ByteArray := prog_3_method_3_code
def yH_last : MethodName := ⟨RH, "last", "(I)I"⟩
abbrev bX_event : ByteArray := prog_1_method_18_code
def yX_event : MethodName := ⟨RX, "event", "(I)I"⟩
abbrev bX_count : ByteArray := prog_1_method_19_code
def yX_count : MethodName := ⟨RX, "count", "(I)I"⟩
abbrev bX_shutOutExtensions : ByteArray := prog_1_method_28_code
def yX_shutOutExtensions : MethodName := ⟨RX, "shutOutExtensions", "()I"⟩
abbrev bM_init : ByteArray := prog_6_method_1_code
def yM_init : MethodName := ⟨RM, "<init>", "()V"⟩
abbrev bM_install : ByteArray := prog_6_method_6_code
def yM_install : MethodName := ⟨RM, "install", "(I)I"⟩
abbrev bM_in : ByteArray := prog_6_method_2_code
def yM_in : MethodName := ⟨RM, "in", "(III)Z"⟩
abbrev bM_uninstall : ByteArray := prog_6_method_7_code
def yM_uninstall : MethodName := ⟨RM, "uninstall", "(I)I"⟩
abbrev bM_need : ByteArray := prog_6_method_9_code
def yM_need : MethodName := ⟨RM, "need", "(IIZ)I"⟩
abbrev bM_gone : ByteArray := prog_6_method_3_code
def yM_gone : MethodName := ⟨RM, "gone", "(I)Z"⟩
abbrev bM_bits : ByteArray := prog_6_method_8_code
def yM_bits : MethodName := ⟨RM, "bits", "(I)I"⟩
abbrev bM_serve : ByteArray := prog_6_method_10_code
def yM_serve : MethodName := ⟨RM, "serve", "(III)I"⟩
abbrev bM_extend : ByteArray := prog_6_method_11_code
def yM_extend : MethodName := ⟨RM, "extend", "(IIIID)I"⟩
abbrev bM_start : ByteArray := prog_6_method_14_code
def yM_start : MethodName := ⟨RM, "start", "(I)I"⟩
abbrev bM_started : ByteArray := prog_6_method_13_code
def yM_started : MethodName := ⟨RM, "started", "(I)I"⟩
abbrev bM_beginStart : ByteArray := prog_6_method_12_code
def yM_beginStart : MethodName := ⟨RM, "beginStart", "(I)I"⟩
abbrev bM_tell : ByteArray := prog_6_method_5_code
def yM_tell : MethodName := ⟨RM, "tell", "(I)V"⟩
abbrev bM_stop : ByteArray := prog_6_method_16_code
def yM_stop : MethodName := ⟨RM, "stop", "(I)I"⟩
abbrev bM_lastNeeding : ByteArray := prog_6_method_15_code
def yM_lastNeeding : MethodName := ⟨RM, "lastNeeding", "(I)I"⟩
abbrev bM_startAll : ByteArray := prog_6_method_18_code
def yM_startAll : MethodName := ⟨RM, "startAll", "()I"⟩
abbrev bM_active : ByteArray := prog_6_method_17_code
def yM_active : MethodName := ⟨RM, "active", "()I"⟩
abbrev bM_call : ByteArray := prog_6_method_28_code
def yM_call : MethodName := ⟨RM, "call", "(II)I"⟩
abbrev bM_beginCall : ByteArray := prog_6_method_21_code
def yM_beginCall : MethodName := ⟨RM, "beginCall", "(II)V"⟩
abbrev bM_ordered : ByteArray := prog_6_method_20_code
def yM_ordered : MethodName := ⟨RM, "ordered", "(II)I"⟩
abbrev bM_live : ByteArray := prog_6_method_19_code
def yM_live : MethodName := ⟨RM, "live", "(I)Z"⟩
abbrev bM_done : ByteArray := prog_6_method_26_code
def yM_done : MethodName := ⟨RM, "done", "(I)I"⟩
abbrev bM_divided : ByteArray := prog_6_method_23_code
def yM_divided : MethodName := ⟨RM, "divided", "(II)I"⟩
abbrev bM_looked : ByteArray := prog_6_method_25_code
def yM_looked : MethodName := ⟨RM, "looked", "(I)I"⟩
abbrev bM_prime : ByteArray := prog_6_method_22_code
def yM_prime : MethodName := ⟨RM, "prime", "(I)I"⟩
abbrev bM_asked : ByteArray := prog_6_method_24_code
def yM_asked : MethodName := ⟨RM, "asked", "(II)I"⟩
abbrev bM_fail : ByteArray := prog_6_method_27_code
def yM_fail : MethodName := ⟨RM, "fail", "(II)V"⟩
abbrev bM_forgive : ByteArray := prog_6_method_29_code
def yM_forgive : MethodName := ⟨RM, "forgive", "(I)I"⟩
abbrev bM_noExtension : ByteArray := prog_6_method_4_code
def yM_noExtension : MethodName := ⟨RM, "noExtension", "(I)Z"⟩
abbrev bM_state : ByteArray := prog_6_method_30_code
def yM_state : MethodName := ⟨RM, "state", "(I)I"⟩
abbrev bM_extension : ByteArray := prog_6_method_31_code
def yM_extension : MethodName := ⟨RM, "extension", "(II)I"⟩
abbrev bM_at : ByteArray := prog_6_method_32_code
def yM_at : MethodName := ⟨RM, "at", "(II)I"⟩
abbrev bM_weight : ByteArray := prog_6_method_33_code
def yM_weight : MethodName := ⟨RM, "weight", "(I)D"⟩
abbrev bM_ordinal : ByteArray := prog_6_method_34_code
def yM_ordinal : MethodName := ⟨RM, "ordinal", "(I)D"⟩
abbrev bM_fault : ByteArray := prog_6_method_35_code
def yM_fault : MethodName := ⟨RM, "fault", "(II)I"⟩
abbrev bM_event : ByteArray := prog_6_method_36_code
def yM_event : MethodName := ⟨RM, "event", "(I)I"⟩
abbrev bM_count : ByteArray := prog_6_method_37_code
def yM_count : MethodName := ⟨RM, "count", "(I)I"⟩
abbrev bL_law : ByteArray := code
def yL_law : MethodName := ⟨RL, "law", "([I)Z"⟩
set_option maxRecDepth 20000 in
def kw_T : List Cond := lw_tbl.filter goodWord
theorem kw_T_in : ∀ w ∈ kw_T, w ∈ lw_tbl := fun w h => (List.mem_filter.mp h).1
theorem kw_T_good : ∀ w ∈ kw_T, goodWord w = true := fun w h => (List.mem_filter.mp h).2
theorem inE : ∀ w ∈ u_ws RE FE 9, w ∈ kw_T := fun w h => List.mem_filter.mpr ⟨inE_t w h, inE_g w h⟩
theorem inH : ∀ w ∈ u_ws RH FH 3, w ∈ kw_T := fun w h => List.mem_filter.mpr ⟨inH_t w h, inH_g w h⟩
theorem inP : ∀ w ∈ u_ws RP FP 9, w ∈ kw_T := fun w h => List.mem_filter.mpr ⟨inP_t w h, inP_g w h⟩
theorem inX : ∀ w ∈ u_ws RX FX 9, w ∈ kw_T := fun w h => List.mem_filter.mpr ⟨inX_t w h, inX_g w h⟩
theorem inM : ∀ w ∈ u_ws RM FM 29, w ∈ kw_T := fun w h => List.mem_filter.mpr ⟨inM_t w h, inM_g w h⟩
theorem wl_0 : (Cond.initialized RL) ∈ kw_T := List.mem_filter.mpr ⟨List.mem_of_getElem? (i := 37) (by decide +kernel), by decide +kernel⟩
theorem wl_1 : (Cond.initialized RX) ∈ kw_T := List.mem_filter.mpr ⟨List.mem_of_getElem? (i := 38) (by decide +kernel), by decide +kernel⟩
theorem wl_2 : (Cond.initialized RH) ∈ kw_T := List.mem_filter.mpr ⟨List.mem_of_getElem? (i := 39) (by decide +kernel), by decide +kernel⟩
theorem wl_3 : (Cond.initialized RP) ∈ kw_T := List.mem_filter.mpr ⟨List.mem_of_getElem? (i := 40) (by decide +kernel), by decide +kernel⟩
theorem wl_4 : (Cond.initialized RE) ∈ kw_T := List.mem_filter.mpr ⟨List.mem_of_getElem? (i := 41) (by decide +kernel), by decide +kernel⟩
theorem wl_5 : (Cond.initialized RM) ∈ kw_T := List.mem_filter.mpr ⟨List.mem_of_getElem? (i := 42) (by decide +kernel), by decide +kernel⟩
theorem wl_6 : (Cond.initialized RI) ∈ kw_T := List.mem_filter.mpr ⟨List.mem_of_getElem? (i := 43) (by decide +kernel), by decide +kernel⟩
theorem wl_7 : (Cond.classLink RL 7 RX) ∈ kw_T := List.mem_filter.mpr ⟨List.mem_of_getElem? (i := 44) (by decide +kernel), by decide +kernel⟩
theorem wl_8 : (Cond.instantiable RX 9) ∈ kw_T := List.mem_filter.mpr ⟨List.mem_of_getElem? (i := 45) (by decide +kernel), by decide +kernel⟩
theorem wl_9 : (Cond.methodLink RL 9 yX_init) ∈ kw_T := List.mem_filter.mpr ⟨List.mem_of_getElem? (i := 46) (by decide +kernel), by decide +kernel⟩
theorem wl_10 : (Cond.instanceMethod yX_init) ∈ kw_T := List.mem_filter.mpr ⟨List.mem_of_getElem? (i := 47) (by decide +kernel), by decide +kernel⟩
theorem wl_11 : (Cond.code yX_init prog_1_method_1_code 2 none) ∈ kw_T := List.mem_filter.mpr ⟨List.mem_of_getElem? (i := 48) (by decide +kernel), by decide +kernel⟩
theorem wl_12 : (Cond.methodLink RX 1 objectInit) ∈ kw_T := List.mem_filter.mpr ⟨List.mem_of_getElem? (i := 49) (by decide +kernel), by decide +kernel⟩
theorem wl_13 : (Cond.instanceMethod objectInit) ∈ kw_T := List.mem_filter.mpr ⟨List.mem_of_getElem? (i := 50) (by decide +kernel), by decide +kernel⟩
theorem wl_14 : (Cond.code objectInit ⟨#[0xb1]⟩ 1 none) ∈ kw_T := List.mem_filter.mpr ⟨List.mem_of_getElem? (i := 51) (by decide +kernel), by decide +kernel⟩
theorem wl_15 : (Cond.classLink RX 9 RP) ∈ kw_T := List.mem_filter.mpr ⟨List.mem_of_getElem? (i := 52) (by decide +kernel), by decide +kernel⟩
theorem wl_16 : (Cond.arrayOver (.object RP)) ∈ lw_tbl := List.mem_of_getElem? (i := 53) (by decide +kernel)
theorem wl_17 : (Cond.classLink RX 15 RE) ∈ kw_T := List.mem_filter.mpr ⟨List.mem_of_getElem? (i := 54) (by decide +kernel), by decide +kernel⟩
theorem wl_18 : (Cond.arrayOver (.object RE)) ∈ lw_tbl := List.mem_of_getElem? (i := 55) (by decide +kernel)
theorem wl_19 : (Cond.classLink RX 24 RH) ∈ kw_T := List.mem_filter.mpr ⟨List.mem_of_getElem? (i := 56) (by decide +kernel), by decide +kernel⟩
theorem wl_20 : (Cond.instantiable RH 3) ∈ kw_T := List.mem_filter.mpr ⟨List.mem_of_getElem? (i := 57) (by decide +kernel), by decide +kernel⟩
theorem wl_21 : (Cond.methodLink RX 26 yH_init) ∈ kw_T := List.mem_filter.mpr ⟨List.mem_of_getElem? (i := 58) (by decide +kernel), by decide +kernel⟩
theorem wl_22 : (Cond.instanceMethod yH_init) ∈ kw_T := List.mem_filter.mpr ⟨List.mem_of_getElem? (i := 59) (by decide +kernel), by decide +kernel⟩
theorem wl_23 : (Cond.code yH_init prog_3_method_1_code 2 none) ∈ kw_T := List.mem_filter.mpr ⟨List.mem_of_getElem? (i := 60) (by decide +kernel), by decide +kernel⟩
theorem wl_24 : (Cond.methodLink RH 3 objectInit) ∈ kw_T := List.mem_filter.mpr ⟨List.mem_of_getElem? (i := 61) (by decide +kernel), by decide +kernel⟩
theorem wl_25 : (Cond.fieldLink RH 9 RH "row" "[I") ∈ kw_T := List.mem_filter.mpr ⟨List.mem_of_getElem? (i := 62) (by decide +kernel), by decide +kernel⟩
theorem wl_26 : (Cond.fieldLink RH 15 RH "kept" "I") ∈ kw_T := List.mem_filter.mpr ⟨List.mem_of_getElem? (i := 63) (by decide +kernel), by decide +kernel⟩
theorem wl_27 : (Cond.fieldLink RH 19 RH "noted" "I") ∈ kw_T := List.mem_filter.mpr ⟨List.mem_of_getElem? (i := 64) (by decide +kernel), by decide +kernel⟩
theorem wl_28 : (Cond.fieldLink RX 158 RH "noted" "I") ∈ kw_T := List.mem_filter.mpr ⟨List.mem_of_getElem? (i := 65) (by decide +kernel), by decide +kernel⟩
theorem wl_36 : (Cond.arrayClass .int) ∈ kw_T := List.mem_filter.mpr ⟨List.mem_of_getElem? (i := 73) (by decide +kernel), by decide +kernel⟩
theorem wl_37 : (Cond.instantiable RP 9) ∈ kw_T := List.mem_filter.mpr ⟨List.mem_of_getElem? (i := 74) (by decide +kernel), by decide +kernel⟩
theorem wl_38 : (Cond.methodLink RX 42 yP_init) ∈ kw_T := List.mem_filter.mpr ⟨List.mem_of_getElem? (i := 75) (by decide +kernel), by decide +kernel⟩
theorem wl_39 : (Cond.instanceMethod yP_init) ∈ kw_T := List.mem_filter.mpr ⟨List.mem_of_getElem? (i := 76) (by decide +kernel), by decide +kernel⟩
theorem wl_40 : (Cond.code yP_init prog_4_method_1_code 2 none) ∈ kw_T := List.mem_filter.mpr ⟨List.mem_of_getElem? (i := 77) (by decide +kernel), by decide +kernel⟩
theorem wl_41 : (Cond.methodLink RP 3 objectInit) ∈ kw_T := List.mem_filter.mpr ⟨List.mem_of_getElem? (i := 78) (by decide +kernel), by decide +kernel⟩
theorem wl_42 : (Cond.fieldLink RP 9 RP "number" "I") ∈ kw_T := List.mem_filter.mpr ⟨List.mem_of_getElem? (i := 79) (by decide +kernel), by decide +kernel⟩
theorem wl_43 : (Cond.fieldLink RX 185 RP "number" "I") ∈ kw_T := List.mem_filter.mpr ⟨List.mem_of_getElem? (i := 80) (by decide +kernel), by decide +kernel⟩
theorem wl_44 : (Cond.fieldLink RX 48 RP "state" "I") ∈ kw_T := List.mem_filter.mpr ⟨List.mem_of_getElem? (i := 81) (by decide +kernel), by decide +kernel⟩
theorem wl_45 : (Cond.fieldLink RP 21 RP "state" "I") ∈ kw_T := List.mem_filter.mpr ⟨List.mem_of_getElem? (i := 82) (by decide +kernel), by decide +kernel⟩
theorem wl_46 : (Cond.fieldLink RP 15 RP "required" "I") ∈ kw_T := List.mem_filter.mpr ⟨List.mem_of_getElem? (i := 83) (by decide +kernel), by decide +kernel⟩
theorem wl_47 : (Cond.fieldLink RX 74 RP "required" "I") ∈ kw_T := List.mem_filter.mpr ⟨List.mem_of_getElem? (i := 84) (by decide +kernel), by decide +kernel⟩
theorem wl_48 : (Cond.fieldLink RP 18 RP "wished" "I") ∈ kw_T := List.mem_filter.mpr ⟨List.mem_of_getElem? (i := 85) (by decide +kernel), by decide +kernel⟩
theorem wl_49 : (Cond.fieldLink RX 71 RP "wished" "I") ∈ kw_T := List.mem_filter.mpr ⟨List.mem_of_getElem? (i := 86) (by decide +kernel), by decide +kernel⟩
theorem wl_50 : (Cond.fieldLink RP 24 RP "service" "I") ∈ kw_T := List.mem_filter.mpr ⟨List.mem_of_getElem? (i := 87) (by decide +kernel), by decide +kernel⟩
theorem wl_51 : (Cond.fieldLink RX 83 RP "service" "I") ∈ kw_T := List.mem_filter.mpr ⟨List.mem_of_getElem? (i := 88) (by decide +kernel), by decide +kernel⟩
theorem wl_52 : (Cond.fieldLink RX 86 RP "value" "I") ∈ kw_T := List.mem_filter.mpr ⟨List.mem_of_getElem? (i := 89) (by decide +kernel), by decide +kernel⟩
theorem wl_53 : (Cond.fieldLink RX 189 RP "startedAs" "I") ∈ kw_T := List.mem_filter.mpr ⟨List.mem_of_getElem? (i := 90) (by decide +kernel), by decide +kernel⟩
theorem wl_54 : (Cond.fieldLink RX 175 RP "starting" "Z") ∈ kw_T := List.mem_filter.mpr ⟨List.mem_of_getElem? (i := 91) (by decide +kernel), by decide +kernel⟩
theorem wl_55 : (Cond.fieldLink RX 195 RP "stopping" "Z") ∈ kw_T := List.mem_filter.mpr ⟨List.mem_of_getElem? (i := 92) (by decide +kernel), by decide +kernel⟩
theorem wl_75 : (Cond.instantiable RE 9) ∈ kw_T := List.mem_filter.mpr ⟨List.mem_of_getElem? (i := 112) (by decide +kernel), by decide +kernel⟩
theorem wl_76 : (Cond.methodLink RX 43 yE_init) ∈ kw_T := List.mem_filter.mpr ⟨List.mem_of_getElem? (i := 113) (by decide +kernel), by decide +kernel⟩
theorem wl_77 : (Cond.instanceMethod yE_init) ∈ kw_T := List.mem_filter.mpr ⟨List.mem_of_getElem? (i := 114) (by decide +kernel), by decide +kernel⟩
theorem wl_78 : (Cond.code yE_init prog_2_method_1_code 2 none) ∈ kw_T := List.mem_filter.mpr ⟨List.mem_of_getElem? (i := 115) (by decide +kernel), by decide +kernel⟩
theorem wl_79 : (Cond.methodLink RE 3 objectInit) ∈ kw_T := List.mem_filter.mpr ⟨List.mem_of_getElem? (i := 116) (by decide +kernel), by decide +kernel⟩
theorem wl_80 : (Cond.fieldLink RE 9 RE "number" "I") ∈ kw_T := List.mem_filter.mpr ⟨List.mem_of_getElem? (i := 117) (by decide +kernel), by decide +kernel⟩
theorem wl_81 : (Cond.fieldLink RX 112 RE "number" "I") ∈ kw_T := List.mem_filter.mpr ⟨List.mem_of_getElem? (i := 118) (by decide +kernel), by decide +kernel⟩
theorem wl_82 : (Cond.fieldLink RE 15 RE "present" "Z") ∈ kw_T := List.mem_filter.mpr ⟨List.mem_of_getElem? (i := 119) (by decide +kernel), by decide +kernel⟩
theorem wl_83 : (Cond.fieldLink RX 58 RE "present" "Z") ∈ kw_T := List.mem_filter.mpr ⟨List.mem_of_getElem? (i := 120) (by decide +kernel), by decide +kernel⟩
theorem wl_84 : (Cond.fieldLink RX 55 RE "plugin" "I") ∈ kw_T := List.mem_filter.mpr ⟨List.mem_of_getElem? (i := 121) (by decide +kernel), by decide +kernel⟩
theorem wl_85 : (Cond.fieldLink RX 95 RE "point" "I") ∈ kw_T := List.mem_filter.mpr ⟨List.mem_of_getElem? (i := 122) (by decide +kernel), by decide +kernel⟩
theorem wl_86 : (Cond.fieldLink RX 98 RE "kind" "I") ∈ kw_T := List.mem_filter.mpr ⟨List.mem_of_getElem? (i := 123) (by decide +kernel), by decide +kernel⟩
theorem wl_87 : (Cond.fieldLink RX 101 RE "p" "I") ∈ kw_T := List.mem_filter.mpr ⟨List.mem_of_getElem? (i := 124) (by decide +kernel), by decide +kernel⟩
theorem wl_88 : (Cond.fieldLink RX 104 RE "ordinal" "D") ∈ kw_T := List.mem_filter.mpr ⟨List.mem_of_getElem? (i := 125) (by decide +kernel), by decide +kernel⟩
theorem wl_89 : (Cond.fieldLink RE 19 RE "faults" "I") ∈ kw_T := List.mem_filter.mpr ⟨List.mem_of_getElem? (i := 126) (by decide +kernel), by decide +kernel⟩
theorem wl_90 : (Cond.fieldLink RX 137 RE "faults" "I") ∈ kw_T := List.mem_filter.mpr ⟨List.mem_of_getElem? (i := 127) (by decide +kernel), by decide +kernel⟩
theorem wl_91 : (Cond.fieldLink RX 140 RE "calls" "I") ∈ kw_T := List.mem_filter.mpr ⟨List.mem_of_getElem? (i := 128) (by decide +kernel), by decide +kernel⟩
theorem wl_111 : (Cond.fieldLink RX 11 RX "plugins" "[LPluginBoundary$Plugin;") ∈ kw_T := List.mem_filter.mpr ⟨List.mem_of_getElem? (i := 148) (by decide +kernel), by decide +kernel⟩
theorem wl_112 : (Cond.fieldLink RX 17 RX "extensions" "[LPluginBoundary$Extension;") ∈ kw_T := List.mem_filter.mpr ⟨List.mem_of_getElem? (i := 149) (by decide +kernel), by decide +kernel⟩
theorem wl_113 : (Cond.fieldLink RX 21 RX "order" "[LPluginBoundary$Extension;") ∈ kw_T := List.mem_filter.mpr ⟨List.mem_of_getElem? (i := 150) (by decide +kernel), by decide +kernel⟩
theorem wl_114 : (Cond.fieldLink RX 29 RX "events" "LPluginBoundary$History;") ∈ kw_T := List.mem_filter.mpr ⟨List.mem_of_getElem? (i := 151) (by decide +kernel), by decide +kernel⟩
theorem wl_115 : (Cond.fieldLink RX 33 RX "faultExtensions" "LPluginBoundary$History;") ∈ kw_T := List.mem_filter.mpr ⟨List.mem_of_getElem? (i := 152) (by decide +kernel), by decide +kernel⟩
theorem wl_116 : (Cond.fieldLink RX 36 RX "faultKinds" "LPluginBoundary$History;") ∈ kw_T := List.mem_filter.mpr ⟨List.mem_of_getElem? (i := 153) (by decide +kernel), by decide +kernel⟩
theorem wl_117 : (Cond.fieldLink RX 39 RX "faultProviders" "LPluginBoundary$History;") ∈ kw_T := List.mem_filter.mpr ⟨List.mem_of_getElem? (i := 154) (by decide +kernel), by decide +kernel⟩
theorem wl_118 : (Cond.fieldLink RX 92 RX "made" "I") ∈ kw_T := List.mem_filter.mpr ⟨List.mem_of_getElem? (i := 155) (by decide +kernel), by decide +kernel⟩
theorem wl_119 : (Cond.fieldLink RX 186 RX "starts" "I") ∈ kw_T := List.mem_filter.mpr ⟨List.mem_of_getElem? (i := 156) (by decide +kernel), by decide +kernel⟩
theorem wl_139 : (Cond.methodLink RL 13 yX_install) ∈ kw_T := List.mem_filter.mpr ⟨List.mem_of_getElem? (i := 176) (by decide +kernel), by decide +kernel⟩
theorem wl_140 : (Cond.instanceMethod yX_install) ∈ kw_T := List.mem_filter.mpr ⟨List.mem_of_getElem? (i := 177) (by decide +kernel), by decide +kernel⟩
theorem wl_141 : (Cond.selects RX yX_install yX_install) ∈ kw_T := List.mem_filter.mpr ⟨List.mem_of_getElem? (i := 178) (by decide +kernel), by decide +kernel⟩
theorem wl_142 : (Cond.code yX_install prog_1_method_2_code 2 (Option.some .int)) ∈ kw_T := List.mem_filter.mpr ⟨List.mem_of_getElem? (i := 179) (by decide +kernel), by decide +kernel⟩
theorem wl_143 : (Cond.methodLink RX 44 yX_isPlugin) ∈ kw_T := List.mem_filter.mpr ⟨List.mem_of_getElem? (i := 180) (by decide +kernel), by decide +kernel⟩
theorem wl_144 : (Cond.static yX_isPlugin) ∈ kw_T := List.mem_filter.mpr ⟨List.mem_of_getElem? (i := 181) (by decide +kernel), by decide +kernel⟩
theorem wl_145 : (Cond.code yX_isPlugin prog_1_method_20_code 1 (Option.some .boolean)) ∈ kw_T := List.mem_filter.mpr ⟨List.mem_of_getElem? (i := 182) (by decide +kernel), by decide +kernel⟩
theorem wl_146 : (Cond.methodLink RL 18 yX_uninstall) ∈ kw_T := List.mem_filter.mpr ⟨List.mem_of_getElem? (i := 183) (by decide +kernel), by decide +kernel⟩
theorem wl_147 : (Cond.instanceMethod yX_uninstall) ∈ kw_T := List.mem_filter.mpr ⟨List.mem_of_getElem? (i := 184) (by decide +kernel), by decide +kernel⟩
theorem wl_148 : (Cond.selects RX yX_uninstall yX_uninstall) ∈ kw_T := List.mem_filter.mpr ⟨List.mem_of_getElem? (i := 185) (by decide +kernel), by decide +kernel⟩
theorem wl_149 : (Cond.code yX_uninstall prog_1_method_3_code 6 (Option.some .int)) ∈ kw_T := List.mem_filter.mpr ⟨List.mem_of_getElem? (i := 186) (by decide +kernel), by decide +kernel⟩
theorem wl_150 : (Cond.methodLink RX 52 yP_clear) ∈ kw_T := List.mem_filter.mpr ⟨List.mem_of_getElem? (i := 187) (by decide +kernel), by decide +kernel⟩
theorem wl_151 : (Cond.instanceMethod yP_clear) ∈ kw_T := List.mem_filter.mpr ⟨List.mem_of_getElem? (i := 188) (by decide +kernel), by decide +kernel⟩
theorem wl_152 : (Cond.selects RP yP_clear yP_clear) ∈ kw_T := List.mem_filter.mpr ⟨List.mem_of_getElem? (i := 189) (by decide +kernel), by decide +kernel⟩
theorem wl_153 : (Cond.code yP_clear prog_4_method_4_code 1 none) ∈ kw_T := List.mem_filter.mpr ⟨List.mem_of_getElem? (i := 190) (by decide +kernel), by decide +kernel⟩
theorem wl_154 : (Cond.methodLink RL 22 yX_need) ∈ kw_T := List.mem_filter.mpr ⟨List.mem_of_getElem? (i := 191) (by decide +kernel), by decide +kernel⟩
theorem wl_155 : (Cond.instanceMethod yX_need) ∈ kw_T := List.mem_filter.mpr ⟨List.mem_of_getElem? (i := 192) (by decide +kernel), by decide +kernel⟩
theorem wl_156 : (Cond.selects RX yX_need yX_need) ∈ kw_T := List.mem_filter.mpr ⟨List.mem_of_getElem? (i := 193) (by decide +kernel), by decide +kernel⟩
theorem wl_157 : (Cond.code yX_need prog_1_method_4_code 5 (Option.some .int)) ∈ kw_T := List.mem_filter.mpr ⟨List.mem_of_getElem? (i := 194) (by decide +kernel), by decide +kernel⟩
theorem wl_158 : (Cond.methodLink RX 62 yX_isThere) ∈ kw_T := List.mem_filter.mpr ⟨List.mem_of_getElem? (i := 195) (by decide +kernel), by decide +kernel⟩
theorem wl_160 : (Cond.instanceMethod yX_isThere) ∈ kw_T := List.mem_filter.mpr ⟨List.mem_of_getElem? (i := 197) (by decide +kernel), by decide +kernel⟩
theorem wl_161 : (Cond.code yX_isThere prog_1_method_22_code 2 (Option.some .boolean)) ∈ kw_T := List.mem_filter.mpr ⟨List.mem_of_getElem? (i := 198) (by decide +kernel), by decide +kernel⟩
theorem wl_162 : (Cond.methodLink RX 65 yP_requires) ∈ kw_T := List.mem_filter.mpr ⟨List.mem_of_getElem? (i := 199) (by decide +kernel), by decide +kernel⟩
theorem wl_163 : (Cond.instanceMethod yP_requires) ∈ kw_T := List.mem_filter.mpr ⟨List.mem_of_getElem? (i := 200) (by decide +kernel), by decide +kernel⟩
theorem wl_164 : (Cond.selects RP yP_requires yP_requires) ∈ kw_T := List.mem_filter.mpr ⟨List.mem_of_getElem? (i := 201) (by decide +kernel), by decide +kernel⟩
theorem wl_165 : (Cond.code yP_requires prog_4_method_2_code 2 (Option.some .boolean)) ∈ kw_T := List.mem_filter.mpr ⟨List.mem_of_getElem? (i := 202) (by decide +kernel), by decide +kernel⟩
theorem wl_166 : (Cond.methodLink RX 68 yP_wishes) ∈ kw_T := List.mem_filter.mpr ⟨List.mem_of_getElem? (i := 203) (by decide +kernel), by decide +kernel⟩
theorem wl_167 : (Cond.instanceMethod yP_wishes) ∈ kw_T := List.mem_filter.mpr ⟨List.mem_of_getElem? (i := 204) (by decide +kernel), by decide +kernel⟩
theorem wl_168 : (Cond.selects RP yP_wishes yP_wishes) ∈ kw_T := List.mem_filter.mpr ⟨List.mem_of_getElem? (i := 205) (by decide +kernel), by decide +kernel⟩
theorem wl_169 : (Cond.code yP_wishes prog_4_method_3_code 2 (Option.some .boolean)) ∈ kw_T := List.mem_filter.mpr ⟨List.mem_of_getElem? (i := 206) (by decide +kernel), by decide +kernel⟩
theorem wl_170 : (Cond.methodLink RX 77 yI_bitCount) ∈ kw_T := List.mem_filter.mpr ⟨List.mem_of_getElem? (i := 207) (by decide +kernel), by decide +kernel⟩
theorem wl_171 : (Cond.static yI_bitCount) ∈ kw_T := List.mem_filter.mpr ⟨List.mem_of_getElem? (i := 208) (by decide +kernel), by decide +kernel⟩
theorem wl_172 : (Cond.code yI_bitCount prog_7_method_49_code 1 (Option.some .int)) ∈ kw_T := List.mem_filter.mpr ⟨List.mem_of_getElem? (i := 209) (by decide +kernel), by decide +kernel⟩
theorem wl_173 : (Cond.constant RI 265 (1431655765 : Int32)) ∈ kw_T := List.mem_filter.mpr ⟨List.mem_of_getElem? (i := 210) (by decide +kernel), by decide +kernel⟩
theorem wl_174 : (Cond.constant RI 266 (858993459 : Int32)) ∈ kw_T := List.mem_filter.mpr ⟨List.mem_of_getElem? (i := 211) (by decide +kernel), by decide +kernel⟩
theorem wl_175 : (Cond.constant RI 267 (252645135 : Int32)) ∈ kw_T := List.mem_filter.mpr ⟨List.mem_of_getElem? (i := 212) (by decide +kernel), by decide +kernel⟩
theorem wl_176 : (Cond.methodLink RL 27 yX_serve) ∈ kw_T := List.mem_filter.mpr ⟨List.mem_of_getElem? (i := 213) (by decide +kernel), by decide +kernel⟩
theorem wl_177 : (Cond.instanceMethod yX_serve) ∈ kw_T := List.mem_filter.mpr ⟨List.mem_of_getElem? (i := 214) (by decide +kernel), by decide +kernel⟩
theorem wl_178 : (Cond.selects RX yX_serve yX_serve) ∈ kw_T := List.mem_filter.mpr ⟨List.mem_of_getElem? (i := 215) (by decide +kernel), by decide +kernel⟩
theorem wl_179 : (Cond.code yX_serve prog_1_method_5_code 4 (Option.some .int)) ∈ kw_T := List.mem_filter.mpr ⟨List.mem_of_getElem? (i := 216) (by decide +kernel), by decide +kernel⟩
theorem wl_180 : (Cond.methodLink RL 34 yX_extend) ∈ kw_T := List.mem_filter.mpr ⟨List.mem_of_getElem? (i := 217) (by decide +kernel), by decide +kernel⟩
theorem wl_181 : (Cond.instanceMethod yX_extend) ∈ kw_T := List.mem_filter.mpr ⟨List.mem_of_getElem? (i := 218) (by decide +kernel), by decide +kernel⟩
theorem wl_182 : (Cond.selects RX yX_extend yX_extend) ∈ kw_T := List.mem_filter.mpr ⟨List.mem_of_getElem? (i := 219) (by decide +kernel), by decide +kernel⟩
theorem wl_183 : (Cond.code yX_extend prog_1_method_6_code 8 (Option.some .int)) ∈ kw_T := List.mem_filter.mpr ⟨List.mem_of_getElem? (i := 220) (by decide +kernel), by decide +kernel⟩
theorem wl_184 : (Cond.methodLink RX 89 yX_isPoint) ∈ kw_T := List.mem_filter.mpr ⟨List.mem_of_getElem? (i := 221) (by decide +kernel), by decide +kernel⟩
theorem wl_185 : (Cond.static yX_isPoint) ∈ kw_T := List.mem_filter.mpr ⟨List.mem_of_getElem? (i := 222) (by decide +kernel), by decide +kernel⟩
theorem wl_186 : (Cond.code yX_isPoint prog_1_method_21_code 1 (Option.some .boolean)) ∈ kw_T := List.mem_filter.mpr ⟨List.mem_of_getElem? (i := 223) (by decide +kernel), by decide +kernel⟩
theorem wl_187 : (Cond.methodLink RX 108 yX_putInOrder) ∈ kw_T := List.mem_filter.mpr ⟨List.mem_of_getElem? (i := 224) (by decide +kernel), by decide +kernel⟩
theorem wl_189 : (Cond.instanceMethod yX_putInOrder) ∈ kw_T := List.mem_filter.mpr ⟨List.mem_of_getElem? (i := 226) (by decide +kernel), by decide +kernel⟩
theorem wl_190 : (Cond.code yX_putInOrder prog_1_method_29_code 3 none) ∈ kw_T := List.mem_filter.mpr ⟨List.mem_of_getElem? (i := 227) (by decide +kernel), by decide +kernel⟩
theorem wl_191 : (Cond.methodLink RX 168 yX_comesBefore) ∈ kw_T := List.mem_filter.mpr ⟨List.mem_of_getElem? (i := 228) (by decide +kernel), by decide +kernel⟩
theorem wl_192 : (Cond.static yX_comesBefore) ∈ kw_T := List.mem_filter.mpr ⟨List.mem_of_getElem? (i := 229) (by decide +kernel), by decide +kernel⟩
theorem wl_193 : (Cond.code yX_comesBefore prog_1_method_30_code 4 (Option.some .boolean)) ∈ kw_T := List.mem_filter.mpr ⟨List.mem_of_getElem? (i := 230) (by decide +kernel), by decide +kernel⟩
theorem wl_194 : (Cond.methodLink RL 39 yX_start) ∈ kw_T := List.mem_filter.mpr ⟨List.mem_of_getElem? (i := 231) (by decide +kernel), by decide +kernel⟩
theorem wl_195 : (Cond.instanceMethod yX_start) ∈ kw_T := List.mem_filter.mpr ⟨List.mem_of_getElem? (i := 232) (by decide +kernel), by decide +kernel⟩
theorem wl_196 : (Cond.selects RX yX_start yX_start) ∈ kw_T := List.mem_filter.mpr ⟨List.mem_of_getElem? (i := 233) (by decide +kernel), by decide +kernel⟩
theorem wl_197 : (Cond.code yX_start prog_1_method_7_code 2 (Option.some .int)) ∈ kw_T := List.mem_filter.mpr ⟨List.mem_of_getElem? (i := 234) (by decide +kernel), by decide +kernel⟩
theorem wl_198 : (Cond.methodLink RX 115 yX_startPlugin) ∈ kw_T := List.mem_filter.mpr ⟨List.mem_of_getElem? (i := 235) (by decide +kernel), by decide +kernel⟩
theorem wl_200 : (Cond.instanceMethod yX_startPlugin) ∈ kw_T := List.mem_filter.mpr ⟨List.mem_of_getElem? (i := 237) (by decide +kernel), by decide +kernel⟩
theorem wl_201 : (Cond.code yX_startPlugin prog_1_method_32_code 3 (Option.some .int)) ∈ kw_T := List.mem_filter.mpr ⟨List.mem_of_getElem? (i := 238) (by decide +kernel), by decide +kernel⟩
theorem wl_202 : (Cond.methodLink RX 178 yX_startNeeds) ∈ kw_T := List.mem_filter.mpr ⟨List.mem_of_getElem? (i := 239) (by decide +kernel), by decide +kernel⟩
theorem wl_204 : (Cond.instanceMethod yX_startNeeds) ∈ kw_T := List.mem_filter.mpr ⟨List.mem_of_getElem? (i := 241) (by decide +kernel), by decide +kernel⟩
theorem wl_205 : (Cond.code yX_startNeeds prog_1_method_33_code 7 (Option.some .int)) ∈ kw_T := List.mem_filter.mpr ⟨List.mem_of_getElem? (i := 242) (by decide +kernel), by decide +kernel⟩
theorem wl_206 : (Cond.methodLink RX 181 yX_activate) ∈ kw_T := List.mem_filter.mpr ⟨List.mem_of_getElem? (i := 243) (by decide +kernel), by decide +kernel⟩
theorem wl_208 : (Cond.instanceMethod yX_activate) ∈ kw_T := List.mem_filter.mpr ⟨List.mem_of_getElem? (i := 245) (by decide +kernel), by decide +kernel⟩
theorem wl_209 : (Cond.code yX_activate prog_1_method_34_code 2 none) ∈ kw_T := List.mem_filter.mpr ⟨List.mem_of_getElem? (i := 246) (by decide +kernel), by decide +kernel⟩
theorem wl_210 : (Cond.methodLink RX 192 yH_note) ∈ kw_T := List.mem_filter.mpr ⟨List.mem_of_getElem? (i := 247) (by decide +kernel), by decide +kernel⟩
theorem wl_211 : (Cond.instanceMethod yH_note) ∈ kw_T := List.mem_filter.mpr ⟨List.mem_of_getElem? (i := 248) (by decide +kernel), by decide +kernel⟩
theorem wl_212 : (Cond.selects RH yH_note yH_note) ∈ kw_T := List.mem_filter.mpr ⟨List.mem_of_getElem? (i := 249) (by decide +kernel), by decide +kernel⟩
theorem wl_213 : (Cond.code yH_note prog_3_method_2_code 2 none) ∈ kw_T := List.mem_filter.mpr ⟨List.mem_of_getElem? (i := 250) (by decide +kernel), by decide +kernel⟩
theorem wl_214 : (Cond.methodLink RL 43 yX_stop) ∈ kw_T := List.mem_filter.mpr ⟨List.mem_of_getElem? (i := 251) (by decide +kernel), by decide +kernel⟩
theorem wl_215 : (Cond.instanceMethod yX_stop) ∈ kw_T := List.mem_filter.mpr ⟨List.mem_of_getElem? (i := 252) (by decide +kernel), by decide +kernel⟩
theorem wl_216 : (Cond.selects RX yX_stop yX_stop) ∈ kw_T := List.mem_filter.mpr ⟨List.mem_of_getElem? (i := 253) (by decide +kernel), by decide +kernel⟩
theorem wl_217 : (Cond.code yX_stop prog_1_method_8_code 2 (Option.some .int)) ∈ kw_T := List.mem_filter.mpr ⟨List.mem_of_getElem? (i := 254) (by decide +kernel), by decide +kernel⟩
theorem wl_218 : (Cond.methodLink RX 119 yX_stopPlugin) ∈ kw_T := List.mem_filter.mpr ⟨List.mem_of_getElem? (i := 255) (by decide +kernel), by decide +kernel⟩
theorem wl_220 : (Cond.instanceMethod yX_stopPlugin) ∈ kw_T := List.mem_filter.mpr ⟨List.mem_of_getElem? (i := 257) (by decide +kernel), by decide +kernel⟩
theorem wl_221 : (Cond.code yX_stopPlugin prog_1_method_35_code 3 (Option.some .int)) ∈ kw_T := List.mem_filter.mpr ⟨List.mem_of_getElem? (i := 258) (by decide +kernel), by decide +kernel⟩
theorem wl_222 : (Cond.methodLink RX 198 yX_stopThoseThatRequire) ∈ kw_T := List.mem_filter.mpr ⟨List.mem_of_getElem? (i := 259) (by decide +kernel), by decide +kernel⟩
theorem wl_224 : (Cond.instanceMethod yX_stopThoseThatRequire) ∈ kw_T := List.mem_filter.mpr ⟨List.mem_of_getElem? (i := 261) (by decide +kernel), by decide +kernel⟩
theorem wl_225 : (Cond.code yX_stopThoseThatRequire prog_1_method_36_code 5 (Option.some .int)) ∈ kw_T := List.mem_filter.mpr ⟨List.mem_of_getElem? (i := 262) (by decide +kernel), by decide +kernel⟩
theorem wl_226 : (Cond.methodLink RX 201 yX_lastStartedThatRequires) ∈ kw_T := List.mem_filter.mpr ⟨List.mem_of_getElem? (i := 263) (by decide +kernel), by decide +kernel⟩
theorem wl_228 : (Cond.instanceMethod yX_lastStartedThatRequires) ∈ kw_T := List.mem_filter.mpr ⟨List.mem_of_getElem? (i := 265) (by decide +kernel), by decide +kernel⟩
theorem wl_229 : (Cond.code yX_lastStartedThatRequires prog_1_method_37_code 7 (Option.some (.object RP))) ∈ kw_T := List.mem_filter.mpr ⟨List.mem_of_getElem? (i := 266) (by decide +kernel), by decide +kernel⟩
theorem wl_230 : (Cond.methodLink RL 47 yX_startAll) ∈ kw_T := List.mem_filter.mpr ⟨List.mem_of_getElem? (i := 267) (by decide +kernel), by decide +kernel⟩
theorem wl_231 : (Cond.instanceMethod yX_startAll) ∈ kw_T := List.mem_filter.mpr ⟨List.mem_of_getElem? (i := 268) (by decide +kernel), by decide +kernel⟩
theorem wl_232 : (Cond.selects RX yX_startAll yX_startAll) ∈ kw_T := List.mem_filter.mpr ⟨List.mem_of_getElem? (i := 269) (by decide +kernel), by decide +kernel⟩
theorem wl_233 : (Cond.code yX_startAll prog_1_method_9_code 5 (Option.some .int)) ∈ kw_T := List.mem_filter.mpr ⟨List.mem_of_getElem? (i := 270) (by decide +kernel), by decide +kernel⟩
theorem wl_234 : (Cond.methodLink RX 122 yX_activePlugins) ∈ kw_T := List.mem_filter.mpr ⟨List.mem_of_getElem? (i := 271) (by decide +kernel), by decide +kernel⟩
theorem wl_236 : (Cond.instanceMethod yX_activePlugins) ∈ kw_T := List.mem_filter.mpr ⟨List.mem_of_getElem? (i := 273) (by decide +kernel), by decide +kernel⟩
theorem wl_237 : (Cond.code yX_activePlugins prog_1_method_27_code 6 (Option.some .int)) ∈ kw_T := List.mem_filter.mpr ⟨List.mem_of_getElem? (i := 274) (by decide +kernel), by decide +kernel⟩
theorem wl_238 : (Cond.methodLink RL 52 yX_call) ∈ kw_T := List.mem_filter.mpr ⟨List.mem_of_getElem? (i := 275) (by decide +kernel), by decide +kernel⟩
theorem wl_239 : (Cond.instanceMethod yX_call) ∈ kw_T := List.mem_filter.mpr ⟨List.mem_of_getElem? (i := 276) (by decide +kernel), by decide +kernel⟩
theorem wl_240 : (Cond.selects RX yX_call yX_call) ∈ kw_T := List.mem_filter.mpr ⟨List.mem_of_getElem? (i := 277) (by decide +kernel), by decide +kernel⟩
theorem wl_241 : (Cond.code yX_call prog_1_method_10_code 3 (Option.some .int)) ∈ kw_T := List.mem_filter.mpr ⟨List.mem_of_getElem? (i := 278) (by decide +kernel), by decide +kernel⟩
theorem wl_242 : (Cond.methodLink RX 126 yX_callPoint) ∈ kw_T := List.mem_filter.mpr ⟨List.mem_of_getElem? (i := 279) (by decide +kernel), by decide +kernel⟩
theorem wl_244 : (Cond.instanceMethod yX_callPoint) ∈ kw_T := List.mem_filter.mpr ⟨List.mem_of_getElem? (i := 281) (by decide +kernel), by decide +kernel⟩
theorem wl_245 : (Cond.code yX_callPoint prog_1_method_38_code 9 (Option.some .int)) ∈ kw_T := List.mem_filter.mpr ⟨List.mem_of_getElem? (i := 282) (by decide +kernel), by decide +kernel⟩
theorem wl_246 : (Cond.methodLink RX 147 yX_isLiveAt) ∈ kw_T := List.mem_filter.mpr ⟨List.mem_of_getElem? (i := 283) (by decide +kernel), by decide +kernel⟩
theorem wl_248 : (Cond.instanceMethod yX_isLiveAt) ∈ kw_T := List.mem_filter.mpr ⟨List.mem_of_getElem? (i := 285) (by decide +kernel), by decide +kernel⟩
theorem wl_249 : (Cond.code yX_isLiveAt prog_1_method_25_code 3 (Option.some .boolean)) ∈ kw_T := List.mem_filter.mpr ⟨List.mem_of_getElem? (i := 286) (by decide +kernel), by decide +kernel⟩
theorem wl_250 : (Cond.methodLink RX 164 yX_isLive) ∈ kw_T := List.mem_filter.mpr ⟨List.mem_of_getElem? (i := 287) (by decide +kernel), by decide +kernel⟩
theorem wl_252 : (Cond.instanceMethod yX_isLive) ∈ kw_T := List.mem_filter.mpr ⟨List.mem_of_getElem? (i := 289) (by decide +kernel), by decide +kernel⟩
theorem wl_253 : (Cond.code yX_isLive prog_1_method_24_code 2 (Option.some .boolean)) ∈ kw_T := List.mem_filter.mpr ⟨List.mem_of_getElem? (i := 290) (by decide +kernel), by decide +kernel⟩
theorem wl_254 : (Cond.methodLink RX 133 yE_isShutOut) ∈ kw_T := List.mem_filter.mpr ⟨List.mem_of_getElem? (i := 291) (by decide +kernel), by decide +kernel⟩
theorem wl_255 : (Cond.instanceMethod yE_isShutOut) ∈ kw_T := List.mem_filter.mpr ⟨List.mem_of_getElem? (i := 292) (by decide +kernel), by decide +kernel⟩
theorem wl_256 : (Cond.selects RE yE_isShutOut yE_isShutOut) ∈ kw_T := List.mem_filter.mpr ⟨List.mem_of_getElem? (i := 293) (by decide +kernel), by decide +kernel⟩
theorem wl_257 : (Cond.code yE_isShutOut prog_2_method_2_code 1 (Option.some .boolean)) ∈ kw_T := List.mem_filter.mpr ⟨List.mem_of_getElem? (i := 294) (by decide +kernel), by decide +kernel⟩
theorem wl_258 : (Cond.methodLink RX 205 yX_passThrough) ∈ kw_T := List.mem_filter.mpr ⟨List.mem_of_getElem? (i := 295) (by decide +kernel), by decide +kernel⟩
theorem wl_260 : (Cond.instanceMethod yX_passThrough) ∈ kw_T := List.mem_filter.mpr ⟨List.mem_of_getElem? (i := 297) (by decide +kernel), by decide +kernel⟩
theorem wl_261 : (Cond.code yX_passThrough prog_1_method_39_code 4 (Option.some .int)) ∈ kw_T := List.mem_filter.mpr ⟨List.mem_of_getElem? (i := 298) (by decide +kernel), by decide +kernel⟩
theorem wl_262 : (Cond.methodLink RX 209 yX_divide) ∈ kw_T := List.mem_filter.mpr ⟨List.mem_of_getElem? (i := 299) (by decide +kernel), by decide +kernel⟩
theorem wl_264 : (Cond.instanceMethod yX_divide) ∈ kw_T := List.mem_filter.mpr ⟨List.mem_of_getElem? (i := 301) (by decide +kernel), by decide +kernel⟩
theorem wl_265 : (Cond.code yX_divide prog_1_method_40_code 3 (Option.some .int)) ∈ kw_T := List.mem_filter.mpr ⟨List.mem_of_getElem? (i := 302) (by decide +kernel), by decide +kernel⟩
theorem wl_266 : (Cond.methodLink RX 219 yX_faulted) ∈ kw_T := List.mem_filter.mpr ⟨List.mem_of_getElem? (i := 303) (by decide +kernel), by decide +kernel⟩
theorem wl_268 : (Cond.instanceMethod yX_faulted) ∈ kw_T := List.mem_filter.mpr ⟨List.mem_of_getElem? (i := 305) (by decide +kernel), by decide +kernel⟩
theorem wl_269 : (Cond.code yX_faulted prog_1_method_45_code 5 (Option.some .int)) ∈ kw_T := List.mem_filter.mpr ⟨List.mem_of_getElem? (i := 306) (by decide +kernel), by decide +kernel⟩
theorem wl_270 : (Cond.methodLink RX 213 yX_look) ∈ kw_T := List.mem_filter.mpr ⟨List.mem_of_getElem? (i := 307) (by decide +kernel), by decide +kernel⟩
theorem wl_272 : (Cond.instanceMethod yX_look) ∈ kw_T := List.mem_filter.mpr ⟨List.mem_of_getElem? (i := 309) (by decide +kernel), by decide +kernel⟩
theorem wl_273 : (Cond.code yX_look prog_1_method_41_code 4 (Option.some .int)) ∈ kw_T := List.mem_filter.mpr ⟨List.mem_of_getElem? (i := 310) (by decide +kernel), by decide +kernel⟩
theorem wl_274 : (Cond.fieldLink RX 229 RX "PRIMES" "[I") ∈ kw_T := List.mem_filter.mpr ⟨List.mem_of_getElem? (i := 311) (by decide +kernel), by decide +kernel⟩
theorem wl_275 : (Cond.laysStatic RX "PRIMES" "[I") ∈ lw_tbl := List.mem_of_getElem? (i := 312) (by decide +kernel)
theorem wl_276 : (Cond.methodLink RX 216 yX_ask) ∈ kw_T := List.mem_filter.mpr ⟨List.mem_of_getElem? (i := 313) (by decide +kernel), by decide +kernel⟩
theorem wl_278 : (Cond.instanceMethod yX_ask) ∈ kw_T := List.mem_filter.mpr ⟨List.mem_of_getElem? (i := 315) (by decide +kernel), by decide +kernel⟩
theorem wl_279 : (Cond.code yX_ask prog_1_method_42_code 4 (Option.some .int)) ∈ kw_T := List.mem_filter.mpr ⟨List.mem_of_getElem? (i := 316) (by decide +kernel), by decide +kernel⟩
theorem wl_280 : (Cond.methodLink RX 223 yX_nest) ∈ kw_T := List.mem_filter.mpr ⟨List.mem_of_getElem? (i := 317) (by decide +kernel), by decide +kernel⟩
theorem wl_282 : (Cond.instanceMethod yX_nest) ∈ kw_T := List.mem_filter.mpr ⟨List.mem_of_getElem? (i := 319) (by decide +kernel), by decide +kernel⟩
theorem wl_283 : (Cond.code yX_nest prog_1_method_43_code 5 (Option.some .int)) ∈ kw_T := List.mem_filter.mpr ⟨List.mem_of_getElem? (i := 320) (by decide +kernel), by decide +kernel⟩
theorem wl_284 : (Cond.methodLink RX 226 yX_bracket) ∈ kw_T := List.mem_filter.mpr ⟨List.mem_of_getElem? (i := 321) (by decide +kernel), by decide +kernel⟩
theorem wl_286 : (Cond.instanceMethod yX_bracket) ∈ kw_T := List.mem_filter.mpr ⟨List.mem_of_getElem? (i := 323) (by decide +kernel), by decide +kernel⟩
theorem wl_287 : (Cond.code yX_bracket prog_1_method_44_code 3 (Option.some .int)) ∈ kw_T := List.mem_filter.mpr ⟨List.mem_of_getElem? (i := 324) (by decide +kernel), by decide +kernel⟩
theorem wl_288 : (Cond.methodLink RL 57 yX_forgive) ∈ kw_T := List.mem_filter.mpr ⟨List.mem_of_getElem? (i := 325) (by decide +kernel), by decide +kernel⟩
theorem wl_289 : (Cond.instanceMethod yX_forgive) ∈ kw_T := List.mem_filter.mpr ⟨List.mem_of_getElem? (i := 326) (by decide +kernel), by decide +kernel⟩
theorem wl_290 : (Cond.selects RX yX_forgive yX_forgive) ∈ kw_T := List.mem_filter.mpr ⟨List.mem_of_getElem? (i := 327) (by decide +kernel), by decide +kernel⟩
theorem wl_291 : (Cond.code yX_forgive prog_1_method_11_code 2 (Option.some .int)) ∈ kw_T := List.mem_filter.mpr ⟨List.mem_of_getElem? (i := 328) (by decide +kernel), by decide +kernel⟩
theorem wl_292 : (Cond.methodLink RX 130 yX_isExtension) ∈ kw_T := List.mem_filter.mpr ⟨List.mem_of_getElem? (i := 329) (by decide +kernel), by decide +kernel⟩
theorem wl_294 : (Cond.instanceMethod yX_isExtension) ∈ kw_T := List.mem_filter.mpr ⟨List.mem_of_getElem? (i := 331) (by decide +kernel), by decide +kernel⟩
theorem wl_295 : (Cond.code yX_isExtension prog_1_method_23_code 2 (Option.some .boolean)) ∈ kw_T := List.mem_filter.mpr ⟨List.mem_of_getElem? (i := 332) (by decide +kernel), by decide +kernel⟩
theorem wl_296 : (Cond.methodLink RL 61 yX_state) ∈ kw_T := List.mem_filter.mpr ⟨List.mem_of_getElem? (i := 333) (by decide +kernel), by decide +kernel⟩
theorem wl_297 : (Cond.instanceMethod yX_state) ∈ kw_T := List.mem_filter.mpr ⟨List.mem_of_getElem? (i := 334) (by decide +kernel), by decide +kernel⟩
theorem wl_298 : (Cond.selects RX yX_state yX_state) ∈ kw_T := List.mem_filter.mpr ⟨List.mem_of_getElem? (i := 335) (by decide +kernel), by decide +kernel⟩
theorem wl_299 : (Cond.code yX_state prog_1_method_12_code 2 (Option.some .int)) ∈ kw_T := List.mem_filter.mpr ⟨List.mem_of_getElem? (i := 336) (by decide +kernel), by decide +kernel⟩
theorem wl_300 : (Cond.methodLink RL 65 yX_extension) ∈ kw_T := List.mem_filter.mpr ⟨List.mem_of_getElem? (i := 337) (by decide +kernel), by decide +kernel⟩
theorem wl_301 : (Cond.instanceMethod yX_extension) ∈ kw_T := List.mem_filter.mpr ⟨List.mem_of_getElem? (i := 338) (by decide +kernel), by decide +kernel⟩
theorem wl_302 : (Cond.selects RX yX_extension yX_extension) ∈ kw_T := List.mem_filter.mpr ⟨List.mem_of_getElem? (i := 339) (by decide +kernel), by decide +kernel⟩
theorem wl_303 : (Cond.code yX_extension prog_1_method_13_code 4 (Option.some .int)) ∈ kw_T := List.mem_filter.mpr ⟨List.mem_of_getElem? (i := 340) (by decide +kernel), by decide +kernel⟩
theorem wl_304 : (Cond.methodLink RX 143 yX_standing) ∈ kw_T := List.mem_filter.mpr ⟨List.mem_of_getElem? (i := 341) (by decide +kernel), by decide +kernel⟩
theorem wl_306 : (Cond.instanceMethod yX_standing) ∈ kw_T := List.mem_filter.mpr ⟨List.mem_of_getElem? (i := 343) (by decide +kernel), by decide +kernel⟩
theorem wl_307 : (Cond.code yX_standing prog_1_method_26_code 2 (Option.some .int)) ∈ kw_T := List.mem_filter.mpr ⟨List.mem_of_getElem? (i := 344) (by decide +kernel), by decide +kernel⟩
theorem wl_308 : (Cond.methodLink RL 69 yX_at) ∈ kw_T := List.mem_filter.mpr ⟨List.mem_of_getElem? (i := 345) (by decide +kernel), by decide +kernel⟩
theorem wl_309 : (Cond.instanceMethod yX_at) ∈ kw_T := List.mem_filter.mpr ⟨List.mem_of_getElem? (i := 346) (by decide +kernel), by decide +kernel⟩
theorem wl_310 : (Cond.selects RX yX_at yX_at) ∈ kw_T := List.mem_filter.mpr ⟨List.mem_of_getElem? (i := 347) (by decide +kernel), by decide +kernel⟩
theorem wl_311 : (Cond.code yX_at prog_1_method_14_code 8 (Option.some .int)) ∈ kw_T := List.mem_filter.mpr ⟨List.mem_of_getElem? (i := 348) (by decide +kernel), by decide +kernel⟩
theorem wl_312 : (Cond.methodLink RL 73 yX_weight) ∈ kw_T := List.mem_filter.mpr ⟨List.mem_of_getElem? (i := 349) (by decide +kernel), by decide +kernel⟩
theorem wl_313 : (Cond.instanceMethod yX_weight) ∈ kw_T := List.mem_filter.mpr ⟨List.mem_of_getElem? (i := 350) (by decide +kernel), by decide +kernel⟩
theorem wl_314 : (Cond.selects RX yX_weight yX_weight) ∈ kw_T := List.mem_filter.mpr ⟨List.mem_of_getElem? (i := 351) (by decide +kernel), by decide +kernel⟩
theorem wl_315 : (Cond.code yX_weight prog_1_method_15_code 10 (Option.some .double)) ∈ kw_T := List.mem_filter.mpr ⟨List.mem_of_getElem? (i := 352) (by decide +kernel), by decide +kernel⟩
theorem wl_316 : (Cond.methodLink RX 151 yX_areOppositeInfinities) ∈ kw_T := List.mem_filter.mpr ⟨List.mem_of_getElem? (i := 353) (by decide +kernel), by decide +kernel⟩
theorem wl_317 : (Cond.static yX_areOppositeInfinities) ∈ kw_T := List.mem_filter.mpr ⟨List.mem_of_getElem? (i := 354) (by decide +kernel), by decide +kernel⟩
theorem wl_318 : (Cond.code yX_areOppositeInfinities prog_1_method_31_code 4 (Option.some .boolean)) ∈ kw_T := List.mem_filter.mpr ⟨List.mem_of_getElem? (i := 355) (by decide +kernel), by decide +kernel⟩
theorem wl_319 : (Cond.constantDouble RX 171 (18442240474082181119 : UInt64)) ∈ kw_T := List.mem_filter.mpr ⟨List.mem_of_getElem? (i := 356) (by decide +kernel), by decide +kernel⟩
theorem wl_320 : (Cond.constantDouble RX 173 (9218868437227405311 : UInt64)) ∈ kw_T := List.mem_filter.mpr ⟨List.mem_of_getElem? (i := 357) (by decide +kernel), by decide +kernel⟩
theorem wl_321 : (Cond.methodLink RL 78 yX_ordinal) ∈ kw_T := List.mem_filter.mpr ⟨List.mem_of_getElem? (i := 358) (by decide +kernel), by decide +kernel⟩
theorem wl_322 : (Cond.instanceMethod yX_ordinal) ∈ kw_T := List.mem_filter.mpr ⟨List.mem_of_getElem? (i := 359) (by decide +kernel), by decide +kernel⟩
theorem wl_323 : (Cond.selects RX yX_ordinal yX_ordinal) ∈ kw_T := List.mem_filter.mpr ⟨List.mem_of_getElem? (i := 360) (by decide +kernel), by decide +kernel⟩
theorem wl_324 : (Cond.code yX_ordinal prog_1_method_16_code 2 (Option.some .double)) ∈ kw_T := List.mem_filter.mpr ⟨List.mem_of_getElem? (i := 361) (by decide +kernel), by decide +kernel⟩
theorem wl_325 : (Cond.methodLink RL 82 yX_fault) ∈ kw_T := List.mem_filter.mpr ⟨List.mem_of_getElem? (i := 362) (by decide +kernel), by decide +kernel⟩
theorem wl_326 : (Cond.instanceMethod yX_fault) ∈ kw_T := List.mem_filter.mpr ⟨List.mem_of_getElem? (i := 363) (by decide +kernel), by decide +kernel⟩
theorem wl_327 : (Cond.selects RX yX_fault yX_fault) ∈ kw_T := List.mem_filter.mpr ⟨List.mem_of_getElem? (i := 364) (by decide +kernel), by decide +kernel⟩
theorem wl_328 : (Cond.code yX_fault prog_1_method_17_code 3 (Option.some .int)) ∈ kw_T := List.mem_filter.mpr ⟨List.mem_of_getElem? (i := 365) (by decide +kernel), by decide +kernel⟩
theorem wl_329 : (Cond.methodLink RX 155 yH_last) ∈ kw_T := List.mem_filter.mpr ⟨List.mem_of_getElem? (i := 366) (by decide +kernel), by decide +kernel⟩
theorem wl_330 : (Cond.instanceMethod yH_last) ∈ kw_T := List.mem_filter.mpr ⟨List.mem_of_getElem? (i := 367) (by decide +kernel), by decide +kernel⟩
theorem wl_331 : (Cond.selects RH yH_last yH_last) ∈ kw_T := List.mem_filter.mpr ⟨List.mem_of_getElem? (i := 368) (by decide +kernel), by decide +kernel⟩
theorem wl_332 : (Cond.code yH_last prog_3_method_3_code 2 (Option.some .int)) ∈ kw_T := List.mem_filter.mpr ⟨List.mem_of_getElem? (i := 369) (by decide +kernel), by decide +kernel⟩
theorem wl_333 : (Cond.methodLink RL 86 yX_event) ∈ kw_T := List.mem_filter.mpr ⟨List.mem_of_getElem? (i := 370) (by decide +kernel), by decide +kernel⟩
theorem wl_334 : (Cond.instanceMethod yX_event) ∈ kw_T := List.mem_filter.mpr ⟨List.mem_of_getElem? (i := 371) (by decide +kernel), by decide +kernel⟩
theorem wl_335 : (Cond.selects RX yX_event yX_event) ∈ kw_T := List.mem_filter.mpr ⟨List.mem_of_getElem? (i := 372) (by decide +kernel), by decide +kernel⟩
theorem wl_336 : (Cond.code yX_event prog_1_method_18_code 2 (Option.some .int)) ∈ kw_T := List.mem_filter.mpr ⟨List.mem_of_getElem? (i := 373) (by decide +kernel), by decide +kernel⟩
theorem wl_337 : (Cond.methodLink RL 90 yX_count) ∈ kw_T := List.mem_filter.mpr ⟨List.mem_of_getElem? (i := 374) (by decide +kernel), by decide +kernel⟩
theorem wl_338 : (Cond.instanceMethod yX_count) ∈ kw_T := List.mem_filter.mpr ⟨List.mem_of_getElem? (i := 375) (by decide +kernel), by decide +kernel⟩
theorem wl_339 : (Cond.selects RX yX_count yX_count) ∈ kw_T := List.mem_filter.mpr ⟨List.mem_of_getElem? (i := 376) (by decide +kernel), by decide +kernel⟩
theorem wl_340 : (Cond.code yX_count prog_1_method_19_code 2 (Option.some .int)) ∈ kw_T := List.mem_filter.mpr ⟨List.mem_of_getElem? (i := 377) (by decide +kernel), by decide +kernel⟩
theorem wl_341 : (Cond.methodLink RX 161 yX_shutOutExtensions) ∈ kw_T := List.mem_filter.mpr ⟨List.mem_of_getElem? (i := 378) (by decide +kernel), by decide +kernel⟩
theorem wl_343 : (Cond.instanceMethod yX_shutOutExtensions) ∈ kw_T := List.mem_filter.mpr ⟨List.mem_of_getElem? (i := 380) (by decide +kernel), by decide +kernel⟩
theorem wl_344 : (Cond.code yX_shutOutExtensions prog_1_method_28_code 6 (Option.some .int)) ∈ kw_T := List.mem_filter.mpr ⟨List.mem_of_getElem? (i := 381) (by decide +kernel), by decide +kernel⟩
theorem wl_345 : (Cond.classLink RL 10 RM) ∈ kw_T := List.mem_filter.mpr ⟨List.mem_of_getElem? (i := 382) (by decide +kernel), by decide +kernel⟩
theorem wl_346 : (Cond.instantiable RM 29) ∈ kw_T := List.mem_filter.mpr ⟨List.mem_of_getElem? (i := 383) (by decide +kernel), by decide +kernel⟩
theorem wl_347 : (Cond.methodLink RL 12 yM_init) ∈ kw_T := List.mem_filter.mpr ⟨List.mem_of_getElem? (i := 384) (by decide +kernel), by decide +kernel⟩
theorem wl_348 : (Cond.instanceMethod yM_init) ∈ kw_T := List.mem_filter.mpr ⟨List.mem_of_getElem? (i := 385) (by decide +kernel), by decide +kernel⟩
theorem wl_349 : (Cond.code yM_init prog_6_method_1_code 1 none) ∈ kw_T := List.mem_filter.mpr ⟨List.mem_of_getElem? (i := 386) (by decide +kernel), by decide +kernel⟩
theorem wl_350 : (Cond.methodLink RM 1 objectInit) ∈ kw_T := List.mem_filter.mpr ⟨List.mem_of_getElem? (i := 387) (by decide +kernel), by decide +kernel⟩
theorem wl_351 : (Cond.fieldLink RM 7 RM "state" "[I") ∈ kw_T := List.mem_filter.mpr ⟨List.mem_of_getElem? (i := 388) (by decide +kernel), by decide +kernel⟩
theorem wl_352 : (Cond.fieldLink RM 13 RM "needs" "[I") ∈ kw_T := List.mem_filter.mpr ⟨List.mem_of_getElem? (i := 389) (by decide +kernel), by decide +kernel⟩
theorem wl_353 : (Cond.fieldLink RM 16 RM "wishes" "[I") ∈ kw_T := List.mem_filter.mpr ⟨List.mem_of_getElem? (i := 390) (by decide +kernel), by decide +kernel⟩
theorem wl_354 : (Cond.fieldLink RM 19 RM "served" "[I") ∈ kw_T := List.mem_filter.mpr ⟨List.mem_of_getElem? (i := 391) (by decide +kernel), by decide +kernel⟩
theorem wl_355 : (Cond.fieldLink RM 22 RM "service" "[I") ∈ kw_T := List.mem_filter.mpr ⟨List.mem_of_getElem? (i := 392) (by decide +kernel), by decide +kernel⟩
theorem wl_356 : (Cond.fieldLink RM 25 RM "since" "[I") ∈ kw_T := List.mem_filter.mpr ⟨List.mem_of_getElem? (i := 393) (by decide +kernel), by decide +kernel⟩
theorem wl_357 : (Cond.fieldLink RM 105 RM "clock" "I") ∈ kw_T := List.mem_filter.mpr ⟨List.mem_of_getElem? (i := 394) (by decide +kernel), by decide +kernel⟩
theorem wl_358 : (Cond.fieldLink RM 85 RM "made" "I") ∈ kw_T := List.mem_filter.mpr ⟨List.mem_of_getElem? (i := 395) (by decide +kernel), by decide +kernel⟩
theorem wl_359 : (Cond.fieldLink RM 28 RM "plugin" "[I") ∈ kw_T := List.mem_filter.mpr ⟨List.mem_of_getElem? (i := 396) (by decide +kernel), by decide +kernel⟩
theorem wl_360 : (Cond.fieldLink RM 31 RM "point" "[I") ∈ kw_T := List.mem_filter.mpr ⟨List.mem_of_getElem? (i := 397) (by decide +kernel), by decide +kernel⟩
theorem wl_361 : (Cond.fieldLink RM 34 RM "kind" "[I") ∈ kw_T := List.mem_filter.mpr ⟨List.mem_of_getElem? (i := 398) (by decide +kernel), by decide +kernel⟩
theorem wl_362 : (Cond.fieldLink RM 37 RM "parameter" "[I") ∈ kw_T := List.mem_filter.mpr ⟨List.mem_of_getElem? (i := 399) (by decide +kernel), by decide +kernel⟩
theorem wl_363 : (Cond.fieldLink RM 40 RM "eighths" "[J") ∈ kw_T := List.mem_filter.mpr ⟨List.mem_of_getElem? (i := 400) (by decide +kernel), by decide +kernel⟩
theorem wl_364 : (Cond.fieldLink RM 44 RM "faults" "[I") ∈ kw_T := List.mem_filter.mpr ⟨List.mem_of_getElem? (i := 401) (by decide +kernel), by decide +kernel⟩
theorem wl_365 : (Cond.fieldLink RM 47 RM "calls" "[I") ∈ kw_T := List.mem_filter.mpr ⟨List.mem_of_getElem? (i := 402) (by decide +kernel), by decide +kernel⟩
theorem wl_366 : (Cond.fieldLink RM 50 RM "shut" "[Z") ∈ kw_T := List.mem_filter.mpr ⟨List.mem_of_getElem? (i := 403) (by decide +kernel), by decide +kernel⟩
theorem wl_367 : (Cond.fieldLink RM 151 RM "noted" "I") ∈ kw_T := List.mem_filter.mpr ⟨List.mem_of_getElem? (i := 404) (by decide +kernel), by decide +kernel⟩
theorem wl_368 : (Cond.fieldLink RM 54 RM "note" "[I") ∈ kw_T := List.mem_filter.mpr ⟨List.mem_of_getElem? (i := 405) (by decide +kernel), by decide +kernel⟩
theorem wl_369 : (Cond.fieldLink RM 89 RM "events" "I") ∈ kw_T := List.mem_filter.mpr ⟨List.mem_of_getElem? (i := 406) (by decide +kernel), by decide +kernel⟩
theorem wl_370 : (Cond.fieldLink RM 57 RM "event" "[I") ∈ kw_T := List.mem_filter.mpr ⟨List.mem_of_getElem? (i := 407) (by decide +kernel), by decide +kernel⟩
theorem wl_371 : (Cond.fieldLink RM 60 RM "way" "[I") ∈ kw_T := List.mem_filter.mpr ⟨List.mem_of_getElem? (i := 408) (by decide +kernel), by decide +kernel⟩
theorem wl_372 : (Cond.fieldLink RM 63 RM "at" "[I") ∈ kw_T := List.mem_filter.mpr ⟨List.mem_of_getElem? (i := 409) (by decide +kernel), by decide +kernel⟩
theorem wl_373 : (Cond.fieldLink RM 66 RM "under" "[Z") ∈ kw_T := List.mem_filter.mpr ⟨List.mem_of_getElem? (i := 410) (by decide +kernel), by decide +kernel⟩
theorem wl_374 : (Cond.fieldLink RM 125 RM "depth" "I") ∈ kw_T := List.mem_filter.mpr ⟨List.mem_of_getElem? (i := 411) (by decide +kernel), by decide +kernel⟩
theorem wl_375 : (Cond.fieldLink RM 69 RM "value" "[I") ∈ kw_T := List.mem_filter.mpr ⟨List.mem_of_getElem? (i := 412) (by decide +kernel), by decide +kernel⟩
theorem wl_376 : (Cond.fieldLink RM 72 RM "row" "[I") ∈ kw_T := List.mem_filter.mpr ⟨List.mem_of_getElem? (i := 413) (by decide +kernel), by decide +kernel⟩
theorem wl_377 : (Cond.fieldLink RM 75 RM "length" "[I") ∈ kw_T := List.mem_filter.mpr ⟨List.mem_of_getElem? (i := 414) (by decide +kernel), by decide +kernel⟩
theorem wl_378 : (Cond.fieldLink RM 78 RM "turn" "[I") ∈ kw_T := List.mem_filter.mpr ⟨List.mem_of_getElem? (i := 415) (by decide +kernel), by decide +kernel⟩
theorem wl_379 : (Cond.fieldLink RM 132 RM "provider" "I") ∈ kw_T := List.mem_filter.mpr ⟨List.mem_of_getElem? (i := 416) (by decide +kernel), by decide +kernel⟩
theorem wl_439 : (Cond.arrayClass .long) ∈ kw_T := List.mem_filter.mpr ⟨List.mem_of_getElem? (i := 476) (by decide +kernel), by decide +kernel⟩
theorem wl_440 : (Cond.arrayClass .boolean) ∈ kw_T := List.mem_filter.mpr ⟨List.mem_of_getElem? (i := 477) (by decide +kernel), by decide +kernel⟩
theorem wl_441 : (Cond.methodLink RL 17 yM_install) ∈ kw_T := List.mem_filter.mpr ⟨List.mem_of_getElem? (i := 478) (by decide +kernel), by decide +kernel⟩
theorem wl_442 : (Cond.instanceMethod yM_install) ∈ kw_T := List.mem_filter.mpr ⟨List.mem_of_getElem? (i := 479) (by decide +kernel), by decide +kernel⟩
theorem wl_443 : (Cond.selects RM yM_install yM_install) ∈ kw_T := List.mem_filter.mpr ⟨List.mem_of_getElem? (i := 480) (by decide +kernel), by decide +kernel⟩
theorem wl_444 : (Cond.code yM_install prog_6_method_6_code 2 (Option.some .int)) ∈ kw_T := List.mem_filter.mpr ⟨List.mem_of_getElem? (i := 481) (by decide +kernel), by decide +kernel⟩
theorem wl_445 : (Cond.methodLink RM 81 yM_in) ∈ kw_T := List.mem_filter.mpr ⟨List.mem_of_getElem? (i := 482) (by decide +kernel), by decide +kernel⟩
theorem wl_446 : (Cond.static yM_in) ∈ kw_T := List.mem_filter.mpr ⟨List.mem_of_getElem? (i := 483) (by decide +kernel), by decide +kernel⟩
theorem wl_447 : (Cond.code yM_in prog_6_method_2_code 3 (Option.some .boolean)) ∈ kw_T := List.mem_filter.mpr ⟨List.mem_of_getElem? (i := 484) (by decide +kernel), by decide +kernel⟩
theorem wl_448 : (Cond.methodLink RL 21 yM_uninstall) ∈ kw_T := List.mem_filter.mpr ⟨List.mem_of_getElem? (i := 485) (by decide +kernel), by decide +kernel⟩
theorem wl_449 : (Cond.instanceMethod yM_uninstall) ∈ kw_T := List.mem_filter.mpr ⟨List.mem_of_getElem? (i := 486) (by decide +kernel), by decide +kernel⟩
theorem wl_450 : (Cond.selects RM yM_uninstall yM_uninstall) ∈ kw_T := List.mem_filter.mpr ⟨List.mem_of_getElem? (i := 487) (by decide +kernel), by decide +kernel⟩
theorem wl_451 : (Cond.code yM_uninstall prog_6_method_7_code 3 (Option.some .int)) ∈ kw_T := List.mem_filter.mpr ⟨List.mem_of_getElem? (i := 488) (by decide +kernel), by decide +kernel⟩
theorem wl_452 : (Cond.methodLink RL 26 yM_need) ∈ kw_T := List.mem_filter.mpr ⟨List.mem_of_getElem? (i := 489) (by decide +kernel), by decide +kernel⟩
theorem wl_453 : (Cond.instanceMethod yM_need) ∈ kw_T := List.mem_filter.mpr ⟨List.mem_of_getElem? (i := 490) (by decide +kernel), by decide +kernel⟩
theorem wl_454 : (Cond.selects RM yM_need yM_need) ∈ kw_T := List.mem_filter.mpr ⟨List.mem_of_getElem? (i := 491) (by decide +kernel), by decide +kernel⟩
theorem wl_455 : (Cond.code yM_need prog_6_method_9_code 4 (Option.some .int)) ∈ kw_T := List.mem_filter.mpr ⟨List.mem_of_getElem? (i := 492) (by decide +kernel), by decide +kernel⟩
theorem wl_456 : (Cond.methodLink RM 92 yM_gone) ∈ kw_T := List.mem_filter.mpr ⟨List.mem_of_getElem? (i := 493) (by decide +kernel), by decide +kernel⟩
theorem wl_458 : (Cond.instanceMethod yM_gone) ∈ kw_T := List.mem_filter.mpr ⟨List.mem_of_getElem? (i := 495) (by decide +kernel), by decide +kernel⟩
theorem wl_459 : (Cond.code yM_gone prog_6_method_3_code 2 (Option.some .boolean)) ∈ kw_T := List.mem_filter.mpr ⟨List.mem_of_getElem? (i := 496) (by decide +kernel), by decide +kernel⟩
theorem wl_460 : (Cond.methodLink RM 96 yM_bits) ∈ kw_T := List.mem_filter.mpr ⟨List.mem_of_getElem? (i := 497) (by decide +kernel), by decide +kernel⟩
theorem wl_461 : (Cond.static yM_bits) ∈ kw_T := List.mem_filter.mpr ⟨List.mem_of_getElem? (i := 498) (by decide +kernel), by decide +kernel⟩
theorem wl_462 : (Cond.code yM_bits prog_6_method_8_code 3 (Option.some .int)) ∈ kw_T := List.mem_filter.mpr ⟨List.mem_of_getElem? (i := 499) (by decide +kernel), by decide +kernel⟩
theorem wl_463 : (Cond.methodLink RL 31 yM_serve) ∈ kw_T := List.mem_filter.mpr ⟨List.mem_of_getElem? (i := 500) (by decide +kernel), by decide +kernel⟩
theorem wl_464 : (Cond.instanceMethod yM_serve) ∈ kw_T := List.mem_filter.mpr ⟨List.mem_of_getElem? (i := 501) (by decide +kernel), by decide +kernel⟩
theorem wl_465 : (Cond.selects RM yM_serve yM_serve) ∈ kw_T := List.mem_filter.mpr ⟨List.mem_of_getElem? (i := 502) (by decide +kernel), by decide +kernel⟩
theorem wl_466 : (Cond.code yM_serve prog_6_method_10_code 4 (Option.some .int)) ∈ kw_T := List.mem_filter.mpr ⟨List.mem_of_getElem? (i := 503) (by decide +kernel), by decide +kernel⟩
theorem wl_467 : (Cond.methodLink RL 38 yM_extend) ∈ kw_T := List.mem_filter.mpr ⟨List.mem_of_getElem? (i := 504) (by decide +kernel), by decide +kernel⟩
theorem wl_468 : (Cond.instanceMethod yM_extend) ∈ kw_T := List.mem_filter.mpr ⟨List.mem_of_getElem? (i := 505) (by decide +kernel), by decide +kernel⟩
theorem wl_469 : (Cond.selects RM yM_extend yM_extend) ∈ kw_T := List.mem_filter.mpr ⟨List.mem_of_getElem? (i := 506) (by decide +kernel), by decide +kernel⟩
theorem wl_470 : (Cond.code yM_extend prog_6_method_11_code 7 (Option.some .int)) ∈ kw_T := List.mem_filter.mpr ⟨List.mem_of_getElem? (i := 507) (by decide +kernel), by decide +kernel⟩
theorem wl_471 : (Cond.constantDouble RM 100 (4620693217682128896 : UInt64)) ∈ kw_T := List.mem_filter.mpr ⟨List.mem_of_getElem? (i := 508) (by decide +kernel), by decide +kernel⟩
theorem wl_472 : (Cond.methodLink RL 42 yM_start) ∈ kw_T := List.mem_filter.mpr ⟨List.mem_of_getElem? (i := 509) (by decide +kernel), by decide +kernel⟩
theorem wl_473 : (Cond.instanceMethod yM_start) ∈ kw_T := List.mem_filter.mpr ⟨List.mem_of_getElem? (i := 510) (by decide +kernel), by decide +kernel⟩
theorem wl_474 : (Cond.selects RM yM_start yM_start) ∈ kw_T := List.mem_filter.mpr ⟨List.mem_of_getElem? (i := 511) (by decide +kernel), by decide +kernel⟩
theorem wl_475 : (Cond.code yM_start prog_6_method_14_code 2 (Option.some .int)) ∈ kw_T := List.mem_filter.mpr ⟨List.mem_of_getElem? (i := 512) (by decide +kernel), by decide +kernel⟩
theorem wl_476 : (Cond.methodLink RM 112 yM_started) ∈ kw_T := List.mem_filter.mpr ⟨List.mem_of_getElem? (i := 513) (by decide +kernel), by decide +kernel⟩
theorem wl_478 : (Cond.instanceMethod yM_started) ∈ kw_T := List.mem_filter.mpr ⟨List.mem_of_getElem? (i := 515) (by decide +kernel), by decide +kernel⟩
theorem wl_479 : (Cond.code yM_started prog_6_method_13_code 8 (Option.some .int)) ∈ kw_T := List.mem_filter.mpr ⟨List.mem_of_getElem? (i := 516) (by decide +kernel), by decide +kernel⟩
theorem wl_480 : (Cond.methodLink RM 102 yM_beginStart) ∈ kw_T := List.mem_filter.mpr ⟨List.mem_of_getElem? (i := 517) (by decide +kernel), by decide +kernel⟩
theorem wl_482 : (Cond.instanceMethod yM_beginStart) ∈ kw_T := List.mem_filter.mpr ⟨List.mem_of_getElem? (i := 519) (by decide +kernel), by decide +kernel⟩
theorem wl_483 : (Cond.code yM_beginStart prog_6_method_12_code 2 (Option.some .int)) ∈ kw_T := List.mem_filter.mpr ⟨List.mem_of_getElem? (i := 520) (by decide +kernel), by decide +kernel⟩
theorem wl_484 : (Cond.methodLink RM 108 yM_tell) ∈ kw_T := List.mem_filter.mpr ⟨List.mem_of_getElem? (i := 521) (by decide +kernel), by decide +kernel⟩
theorem wl_486 : (Cond.instanceMethod yM_tell) ∈ kw_T := List.mem_filter.mpr ⟨List.mem_of_getElem? (i := 523) (by decide +kernel), by decide +kernel⟩
theorem wl_487 : (Cond.code yM_tell prog_6_method_5_code 2 none) ∈ kw_T := List.mem_filter.mpr ⟨List.mem_of_getElem? (i := 524) (by decide +kernel), by decide +kernel⟩
theorem wl_488 : (Cond.methodLink RL 46 yM_stop) ∈ kw_T := List.mem_filter.mpr ⟨List.mem_of_getElem? (i := 525) (by decide +kernel), by decide +kernel⟩
theorem wl_489 : (Cond.instanceMethod yM_stop) ∈ kw_T := List.mem_filter.mpr ⟨List.mem_of_getElem? (i := 526) (by decide +kernel), by decide +kernel⟩
theorem wl_490 : (Cond.selects RM yM_stop yM_stop) ∈ kw_T := List.mem_filter.mpr ⟨List.mem_of_getElem? (i := 527) (by decide +kernel), by decide +kernel⟩
theorem wl_491 : (Cond.code yM_stop prog_6_method_16_code 6 (Option.some .int)) ∈ kw_T := List.mem_filter.mpr ⟨List.mem_of_getElem? (i := 528) (by decide +kernel), by decide +kernel⟩
theorem wl_492 : (Cond.methodLink RM 115 yM_lastNeeding) ∈ kw_T := List.mem_filter.mpr ⟨List.mem_of_getElem? (i := 529) (by decide +kernel), by decide +kernel⟩
theorem wl_494 : (Cond.instanceMethod yM_lastNeeding) ∈ kw_T := List.mem_filter.mpr ⟨List.mem_of_getElem? (i := 531) (by decide +kernel), by decide +kernel⟩
theorem wl_495 : (Cond.code yM_lastNeeding prog_6_method_15_code 5 (Option.some .int)) ∈ kw_T := List.mem_filter.mpr ⟨List.mem_of_getElem? (i := 532) (by decide +kernel), by decide +kernel⟩
theorem wl_496 : (Cond.methodLink RL 51 yM_startAll) ∈ kw_T := List.mem_filter.mpr ⟨List.mem_of_getElem? (i := 533) (by decide +kernel), by decide +kernel⟩
theorem wl_497 : (Cond.instanceMethod yM_startAll) ∈ kw_T := List.mem_filter.mpr ⟨List.mem_of_getElem? (i := 534) (by decide +kernel), by decide +kernel⟩
theorem wl_498 : (Cond.selects RM yM_startAll yM_startAll) ∈ kw_T := List.mem_filter.mpr ⟨List.mem_of_getElem? (i := 535) (by decide +kernel), by decide +kernel⟩
theorem wl_499 : (Cond.code yM_startAll prog_6_method_18_code 3 (Option.some .int)) ∈ kw_T := List.mem_filter.mpr ⟨List.mem_of_getElem? (i := 536) (by decide +kernel), by decide +kernel⟩
theorem wl_500 : (Cond.methodLink RM 118 yM_active) ∈ kw_T := List.mem_filter.mpr ⟨List.mem_of_getElem? (i := 537) (by decide +kernel), by decide +kernel⟩
theorem wl_502 : (Cond.instanceMethod yM_active) ∈ kw_T := List.mem_filter.mpr ⟨List.mem_of_getElem? (i := 539) (by decide +kernel), by decide +kernel⟩
theorem wl_503 : (Cond.code yM_active prog_6_method_17_code 3 (Option.some .int)) ∈ kw_T := List.mem_filter.mpr ⟨List.mem_of_getElem? (i := 540) (by decide +kernel), by decide +kernel⟩
theorem wl_504 : (Cond.methodLink RL 56 yM_call) ∈ kw_T := List.mem_filter.mpr ⟨List.mem_of_getElem? (i := 541) (by decide +kernel), by decide +kernel⟩
theorem wl_505 : (Cond.instanceMethod yM_call) ∈ kw_T := List.mem_filter.mpr ⟨List.mem_of_getElem? (i := 542) (by decide +kernel), by decide +kernel⟩
theorem wl_506 : (Cond.selects RM yM_call yM_call) ∈ kw_T := List.mem_filter.mpr ⟨List.mem_of_getElem? (i := 543) (by decide +kernel), by decide +kernel⟩
theorem wl_507 : (Cond.code yM_call prog_6_method_28_code 6 (Option.some .int)) ∈ kw_T := List.mem_filter.mpr ⟨List.mem_of_getElem? (i := 544) (by decide +kernel), by decide +kernel⟩
theorem wl_508 : (Cond.methodLink RM 147 yM_beginCall) ∈ kw_T := List.mem_filter.mpr ⟨List.mem_of_getElem? (i := 545) (by decide +kernel), by decide +kernel⟩
theorem wl_510 : (Cond.instanceMethod yM_beginCall) ∈ kw_T := List.mem_filter.mpr ⟨List.mem_of_getElem? (i := 547) (by decide +kernel), by decide +kernel⟩
theorem wl_511 : (Cond.code yM_beginCall prog_6_method_21_code 4 none) ∈ kw_T := List.mem_filter.mpr ⟨List.mem_of_getElem? (i := 548) (by decide +kernel), by decide +kernel⟩
theorem wl_512 : (Cond.methodLink RM 128 yM_ordered) ∈ kw_T := List.mem_filter.mpr ⟨List.mem_of_getElem? (i := 549) (by decide +kernel), by decide +kernel⟩
theorem wl_514 : (Cond.instanceMethod yM_ordered) ∈ kw_T := List.mem_filter.mpr ⟨List.mem_of_getElem? (i := 551) (by decide +kernel), by decide +kernel⟩
theorem wl_515 : (Cond.code yM_ordered prog_6_method_20_code 7 (Option.some .int)) ∈ kw_T := List.mem_filter.mpr ⟨List.mem_of_getElem? (i := 552) (by decide +kernel), by decide +kernel⟩
theorem wl_516 : (Cond.methodLink RM 122 yM_live) ∈ kw_T := List.mem_filter.mpr ⟨List.mem_of_getElem? (i := 553) (by decide +kernel), by decide +kernel⟩
theorem wl_518 : (Cond.instanceMethod yM_live) ∈ kw_T := List.mem_filter.mpr ⟨List.mem_of_getElem? (i := 555) (by decide +kernel), by decide +kernel⟩
theorem wl_519 : (Cond.code yM_live prog_6_method_19_code 2 (Option.some .boolean)) ∈ kw_T := List.mem_filter.mpr ⟨List.mem_of_getElem? (i := 556) (by decide +kernel), by decide +kernel⟩
theorem wl_520 : (Cond.methodLink RM 154 yM_done) ∈ kw_T := List.mem_filter.mpr ⟨List.mem_of_getElem? (i := 557) (by decide +kernel), by decide +kernel⟩
theorem wl_522 : (Cond.instanceMethod yM_done) ∈ kw_T := List.mem_filter.mpr ⟨List.mem_of_getElem? (i := 559) (by decide +kernel), by decide +kernel⟩
theorem wl_523 : (Cond.code yM_done prog_6_method_26_code 4 (Option.some .int)) ∈ kw_T := List.mem_filter.mpr ⟨List.mem_of_getElem? (i := 560) (by decide +kernel), by decide +kernel⟩
theorem wl_524 : (Cond.methodLink RM 138 yM_divided) ∈ kw_T := List.mem_filter.mpr ⟨List.mem_of_getElem? (i := 561) (by decide +kernel), by decide +kernel⟩
theorem wl_526 : (Cond.instanceMethod yM_divided) ∈ kw_T := List.mem_filter.mpr ⟨List.mem_of_getElem? (i := 563) (by decide +kernel), by decide +kernel⟩
theorem wl_527 : (Cond.code yM_divided prog_6_method_23_code 3 (Option.some .int)) ∈ kw_T := List.mem_filter.mpr ⟨List.mem_of_getElem? (i := 564) (by decide +kernel), by decide +kernel⟩
theorem wl_528 : (Cond.methodLink RM 141 yM_looked) ∈ kw_T := List.mem_filter.mpr ⟨List.mem_of_getElem? (i := 565) (by decide +kernel), by decide +kernel⟩
theorem wl_530 : (Cond.instanceMethod yM_looked) ∈ kw_T := List.mem_filter.mpr ⟨List.mem_of_getElem? (i := 567) (by decide +kernel), by decide +kernel⟩
theorem wl_531 : (Cond.code yM_looked prog_6_method_25_code 2 (Option.some .int)) ∈ kw_T := List.mem_filter.mpr ⟨List.mem_of_getElem? (i := 568) (by decide +kernel), by decide +kernel⟩
theorem wl_532 : (Cond.methodLink RM 135 yM_prime) ∈ kw_T := List.mem_filter.mpr ⟨List.mem_of_getElem? (i := 569) (by decide +kernel), by decide +kernel⟩
theorem wl_533 : (Cond.static yM_prime) ∈ kw_T := List.mem_filter.mpr ⟨List.mem_of_getElem? (i := 570) (by decide +kernel), by decide +kernel⟩
theorem wl_534 : (Cond.code yM_prime prog_6_method_22_code 5 (Option.some .int)) ∈ kw_T := List.mem_filter.mpr ⟨List.mem_of_getElem? (i := 571) (by decide +kernel), by decide +kernel⟩
theorem wl_535 : (Cond.methodLink RM 144 yM_asked) ∈ kw_T := List.mem_filter.mpr ⟨List.mem_of_getElem? (i := 572) (by decide +kernel), by decide +kernel⟩
theorem wl_537 : (Cond.instanceMethod yM_asked) ∈ kw_T := List.mem_filter.mpr ⟨List.mem_of_getElem? (i := 574) (by decide +kernel), by decide +kernel⟩
theorem wl_538 : (Cond.code yM_asked prog_6_method_24_code 3 (Option.some .int)) ∈ kw_T := List.mem_filter.mpr ⟨List.mem_of_getElem? (i := 575) (by decide +kernel), by decide +kernel⟩
theorem wl_539 : (Cond.methodLink RM 157 yM_fail) ∈ kw_T := List.mem_filter.mpr ⟨List.mem_of_getElem? (i := 576) (by decide +kernel), by decide +kernel⟩
theorem wl_541 : (Cond.instanceMethod yM_fail) ∈ kw_T := List.mem_filter.mpr ⟨List.mem_of_getElem? (i := 578) (by decide +kernel), by decide +kernel⟩
theorem wl_542 : (Cond.code yM_fail prog_6_method_27_code 3 none) ∈ kw_T := List.mem_filter.mpr ⟨List.mem_of_getElem? (i := 579) (by decide +kernel), by decide +kernel⟩
theorem wl_543 : (Cond.methodLink RL 60 yM_forgive) ∈ kw_T := List.mem_filter.mpr ⟨List.mem_of_getElem? (i := 580) (by decide +kernel), by decide +kernel⟩
theorem wl_544 : (Cond.instanceMethod yM_forgive) ∈ kw_T := List.mem_filter.mpr ⟨List.mem_of_getElem? (i := 581) (by decide +kernel), by decide +kernel⟩
theorem wl_545 : (Cond.selects RM yM_forgive yM_forgive) ∈ kw_T := List.mem_filter.mpr ⟨List.mem_of_getElem? (i := 582) (by decide +kernel), by decide +kernel⟩
theorem wl_546 : (Cond.code yM_forgive prog_6_method_29_code 2 (Option.some .int)) ∈ kw_T := List.mem_filter.mpr ⟨List.mem_of_getElem? (i := 583) (by decide +kernel), by decide +kernel⟩
theorem wl_547 : (Cond.methodLink RM 160 yM_noExtension) ∈ kw_T := List.mem_filter.mpr ⟨List.mem_of_getElem? (i := 584) (by decide +kernel), by decide +kernel⟩
theorem wl_549 : (Cond.instanceMethod yM_noExtension) ∈ kw_T := List.mem_filter.mpr ⟨List.mem_of_getElem? (i := 586) (by decide +kernel), by decide +kernel⟩
theorem wl_550 : (Cond.code yM_noExtension prog_6_method_4_code 2 (Option.some .boolean)) ∈ kw_T := List.mem_filter.mpr ⟨List.mem_of_getElem? (i := 587) (by decide +kernel), by decide +kernel⟩
theorem wl_551 : (Cond.methodLink RL 64 yM_state) ∈ kw_T := List.mem_filter.mpr ⟨List.mem_of_getElem? (i := 588) (by decide +kernel), by decide +kernel⟩
theorem wl_552 : (Cond.instanceMethod yM_state) ∈ kw_T := List.mem_filter.mpr ⟨List.mem_of_getElem? (i := 589) (by decide +kernel), by decide +kernel⟩
theorem wl_553 : (Cond.selects RM yM_state yM_state) ∈ kw_T := List.mem_filter.mpr ⟨List.mem_of_getElem? (i := 590) (by decide +kernel), by decide +kernel⟩
theorem wl_554 : (Cond.code yM_state prog_6_method_30_code 2 (Option.some .int)) ∈ kw_T := List.mem_filter.mpr ⟨List.mem_of_getElem? (i := 591) (by decide +kernel), by decide +kernel⟩
theorem wl_555 : (Cond.methodLink RL 68 yM_extension) ∈ kw_T := List.mem_filter.mpr ⟨List.mem_of_getElem? (i := 592) (by decide +kernel), by decide +kernel⟩
theorem wl_556 : (Cond.instanceMethod yM_extension) ∈ kw_T := List.mem_filter.mpr ⟨List.mem_of_getElem? (i := 593) (by decide +kernel), by decide +kernel⟩
theorem wl_557 : (Cond.selects RM yM_extension yM_extension) ∈ kw_T := List.mem_filter.mpr ⟨List.mem_of_getElem? (i := 594) (by decide +kernel), by decide +kernel⟩
theorem wl_558 : (Cond.code yM_extension prog_6_method_31_code 3 (Option.some .int)) ∈ kw_T := List.mem_filter.mpr ⟨List.mem_of_getElem? (i := 595) (by decide +kernel), by decide +kernel⟩
theorem wl_559 : (Cond.methodLink RL 72 yM_at) ∈ kw_T := List.mem_filter.mpr ⟨List.mem_of_getElem? (i := 596) (by decide +kernel), by decide +kernel⟩
theorem wl_560 : (Cond.instanceMethod yM_at) ∈ kw_T := List.mem_filter.mpr ⟨List.mem_of_getElem? (i := 597) (by decide +kernel), by decide +kernel⟩
theorem wl_561 : (Cond.selects RM yM_at yM_at) ∈ kw_T := List.mem_filter.mpr ⟨List.mem_of_getElem? (i := 598) (by decide +kernel), by decide +kernel⟩
theorem wl_562 : (Cond.code yM_at prog_6_method_32_code 4 (Option.some .int)) ∈ kw_T := List.mem_filter.mpr ⟨List.mem_of_getElem? (i := 599) (by decide +kernel), by decide +kernel⟩
theorem wl_563 : (Cond.methodLink RL 77 yM_weight) ∈ kw_T := List.mem_filter.mpr ⟨List.mem_of_getElem? (i := 600) (by decide +kernel), by decide +kernel⟩
theorem wl_564 : (Cond.instanceMethod yM_weight) ∈ kw_T := List.mem_filter.mpr ⟨List.mem_of_getElem? (i := 601) (by decide +kernel), by decide +kernel⟩
theorem wl_565 : (Cond.selects RM yM_weight yM_weight) ∈ kw_T := List.mem_filter.mpr ⟨List.mem_of_getElem? (i := 602) (by decide +kernel), by decide +kernel⟩
theorem wl_566 : (Cond.code yM_weight prog_6_method_33_code 5 (Option.some .double)) ∈ kw_T := List.mem_filter.mpr ⟨List.mem_of_getElem? (i := 603) (by decide +kernel), by decide +kernel⟩
theorem wl_567 : (Cond.methodLink RL 81 yM_ordinal) ∈ kw_T := List.mem_filter.mpr ⟨List.mem_of_getElem? (i := 604) (by decide +kernel), by decide +kernel⟩
theorem wl_568 : (Cond.instanceMethod yM_ordinal) ∈ kw_T := List.mem_filter.mpr ⟨List.mem_of_getElem? (i := 605) (by decide +kernel), by decide +kernel⟩
theorem wl_569 : (Cond.selects RM yM_ordinal yM_ordinal) ∈ kw_T := List.mem_filter.mpr ⟨List.mem_of_getElem? (i := 606) (by decide +kernel), by decide +kernel⟩
theorem wl_570 : (Cond.code yM_ordinal prog_6_method_34_code 2 (Option.some .double)) ∈ kw_T := List.mem_filter.mpr ⟨List.mem_of_getElem? (i := 607) (by decide +kernel), by decide +kernel⟩
theorem wl_571 : (Cond.methodLink RL 85 yM_fault) ∈ kw_T := List.mem_filter.mpr ⟨List.mem_of_getElem? (i := 608) (by decide +kernel), by decide +kernel⟩
theorem wl_572 : (Cond.instanceMethod yM_fault) ∈ kw_T := List.mem_filter.mpr ⟨List.mem_of_getElem? (i := 609) (by decide +kernel), by decide +kernel⟩
theorem wl_573 : (Cond.selects RM yM_fault yM_fault) ∈ kw_T := List.mem_filter.mpr ⟨List.mem_of_getElem? (i := 610) (by decide +kernel), by decide +kernel⟩
theorem wl_574 : (Cond.code yM_fault prog_6_method_35_code 3 (Option.some .int)) ∈ kw_T := List.mem_filter.mpr ⟨List.mem_of_getElem? (i := 611) (by decide +kernel), by decide +kernel⟩
theorem wl_575 : (Cond.methodLink RL 89 yM_event) ∈ kw_T := List.mem_filter.mpr ⟨List.mem_of_getElem? (i := 612) (by decide +kernel), by decide +kernel⟩
theorem wl_576 : (Cond.instanceMethod yM_event) ∈ kw_T := List.mem_filter.mpr ⟨List.mem_of_getElem? (i := 613) (by decide +kernel), by decide +kernel⟩
theorem wl_577 : (Cond.selects RM yM_event yM_event) ∈ kw_T := List.mem_filter.mpr ⟨List.mem_of_getElem? (i := 614) (by decide +kernel), by decide +kernel⟩
theorem wl_578 : (Cond.code yM_event prog_6_method_36_code 2 (Option.some .int)) ∈ kw_T := List.mem_filter.mpr ⟨List.mem_of_getElem? (i := 615) (by decide +kernel), by decide +kernel⟩
theorem wl_579 : (Cond.methodLink RL 93 yM_count) ∈ kw_T := List.mem_filter.mpr ⟨List.mem_of_getElem? (i := 616) (by decide +kernel), by decide +kernel⟩
theorem wl_580 : (Cond.instanceMethod yM_count) ∈ kw_T := List.mem_filter.mpr ⟨List.mem_of_getElem? (i := 617) (by decide +kernel), by decide +kernel⟩
theorem wl_581 : (Cond.selects RM yM_count yM_count) ∈ kw_T := List.mem_filter.mpr ⟨List.mem_of_getElem? (i := 618) (by decide +kernel), by decide +kernel⟩
theorem wl_582 : (Cond.code yM_count prog_6_method_37_code 4 (Option.some .int)) ∈ kw_T := List.mem_filter.mpr ⟨List.mem_of_getElem? (i := 619) (by decide +kernel), by decide +kernel⟩
theorem wl_583 : (Cond.constantDouble RL 32 (4593671619917905920 : UInt64)) ∈ kw_T := List.mem_filter.mpr ⟨List.mem_of_getElem? (i := 620) (by decide +kernel), by decide +kernel⟩
theorem wp_0 : (Cond.selects RX yX_isThere yX_isThere) ∈ kw_T := List.mem_filter.mpr ⟨List.mem_of_getElem? (i := 0) (by decide +kernel), by decide +kernel⟩
theorem wp_1 : (Cond.selects RX yX_putInOrder yX_putInOrder) ∈ kw_T := List.mem_filter.mpr ⟨List.mem_of_getElem? (i := 1) (by decide +kernel), by decide +kernel⟩
theorem wp_2 : (Cond.selects RX yX_startPlugin yX_startPlugin) ∈ kw_T := List.mem_filter.mpr ⟨List.mem_of_getElem? (i := 2) (by decide +kernel), by decide +kernel⟩
theorem wp_3 : (Cond.selects RX yX_startNeeds yX_startNeeds) ∈ kw_T := List.mem_filter.mpr ⟨List.mem_of_getElem? (i := 3) (by decide +kernel), by decide +kernel⟩
theorem wp_4 : (Cond.selects RX yX_activate yX_activate) ∈ kw_T := List.mem_filter.mpr ⟨List.mem_of_getElem? (i := 4) (by decide +kernel), by decide +kernel⟩
theorem wp_5 : (Cond.selects RX yX_stopPlugin yX_stopPlugin) ∈ kw_T := List.mem_filter.mpr ⟨List.mem_of_getElem? (i := 5) (by decide +kernel), by decide +kernel⟩
theorem wp_6 : (Cond.selects RX yX_stopThoseThatRequire yX_stopThoseThatRequire) ∈ kw_T := List.mem_filter.mpr ⟨List.mem_of_getElem? (i := 6) (by decide +kernel), by decide +kernel⟩
theorem wp_7 : (Cond.selects RX yX_lastStartedThatRequires yX_lastStartedThatRequires) ∈ kw_T := List.mem_filter.mpr ⟨List.mem_of_getElem? (i := 7) (by decide +kernel), by decide +kernel⟩
theorem wp_8 : (Cond.selects RX yX_activePlugins yX_activePlugins) ∈ kw_T := List.mem_filter.mpr ⟨List.mem_of_getElem? (i := 8) (by decide +kernel), by decide +kernel⟩
theorem wp_9 : (Cond.selects RX yX_callPoint yX_callPoint) ∈ kw_T := List.mem_filter.mpr ⟨List.mem_of_getElem? (i := 9) (by decide +kernel), by decide +kernel⟩
theorem wp_10 : (Cond.selects RX yX_isLiveAt yX_isLiveAt) ∈ kw_T := List.mem_filter.mpr ⟨List.mem_of_getElem? (i := 10) (by decide +kernel), by decide +kernel⟩
theorem wp_11 : (Cond.selects RX yX_isLive yX_isLive) ∈ kw_T := List.mem_filter.mpr ⟨List.mem_of_getElem? (i := 11) (by decide +kernel), by decide +kernel⟩
theorem wp_12 : (Cond.selects RX yX_passThrough yX_passThrough) ∈ kw_T := List.mem_filter.mpr ⟨List.mem_of_getElem? (i := 12) (by decide +kernel), by decide +kernel⟩
theorem wp_13 : (Cond.selects RX yX_divide yX_divide) ∈ kw_T := List.mem_filter.mpr ⟨List.mem_of_getElem? (i := 13) (by decide +kernel), by decide +kernel⟩
theorem wp_14 : (Cond.selects RX yX_faulted yX_faulted) ∈ kw_T := List.mem_filter.mpr ⟨List.mem_of_getElem? (i := 14) (by decide +kernel), by decide +kernel⟩
theorem wp_15 : (Cond.selects RX yX_look yX_look) ∈ kw_T := List.mem_filter.mpr ⟨List.mem_of_getElem? (i := 15) (by decide +kernel), by decide +kernel⟩
theorem wp_16 : (Cond.selects RX yX_ask yX_ask) ∈ kw_T := List.mem_filter.mpr ⟨List.mem_of_getElem? (i := 16) (by decide +kernel), by decide +kernel⟩
theorem wp_17 : (Cond.selects RX yX_nest yX_nest) ∈ kw_T := List.mem_filter.mpr ⟨List.mem_of_getElem? (i := 17) (by decide +kernel), by decide +kernel⟩
theorem wp_18 : (Cond.selects RX yX_bracket yX_bracket) ∈ kw_T := List.mem_filter.mpr ⟨List.mem_of_getElem? (i := 18) (by decide +kernel), by decide +kernel⟩
theorem wp_19 : (Cond.selects RX yX_isExtension yX_isExtension) ∈ kw_T := List.mem_filter.mpr ⟨List.mem_of_getElem? (i := 19) (by decide +kernel), by decide +kernel⟩
theorem wp_20 : (Cond.selects RX yX_standing yX_standing) ∈ kw_T := List.mem_filter.mpr ⟨List.mem_of_getElem? (i := 20) (by decide +kernel), by decide +kernel⟩
theorem wp_21 : (Cond.selects RX yX_shutOutExtensions yX_shutOutExtensions) ∈ kw_T := List.mem_filter.mpr ⟨List.mem_of_getElem? (i := 21) (by decide +kernel), by decide +kernel⟩
theorem wp_22 : (Cond.selects RM yM_gone yM_gone) ∈ kw_T := List.mem_filter.mpr ⟨List.mem_of_getElem? (i := 22) (by decide +kernel), by decide +kernel⟩
theorem wp_23 : (Cond.selects RM yM_started yM_started) ∈ kw_T := List.mem_filter.mpr ⟨List.mem_of_getElem? (i := 23) (by decide +kernel), by decide +kernel⟩
theorem wp_24 : (Cond.selects RM yM_beginStart yM_beginStart) ∈ kw_T := List.mem_filter.mpr ⟨List.mem_of_getElem? (i := 24) (by decide +kernel), by decide +kernel⟩
theorem wp_25 : (Cond.selects RM yM_tell yM_tell) ∈ kw_T := List.mem_filter.mpr ⟨List.mem_of_getElem? (i := 25) (by decide +kernel), by decide +kernel⟩
theorem wp_26 : (Cond.selects RM yM_lastNeeding yM_lastNeeding) ∈ kw_T := List.mem_filter.mpr ⟨List.mem_of_getElem? (i := 26) (by decide +kernel), by decide +kernel⟩
theorem wp_27 : (Cond.selects RM yM_active yM_active) ∈ kw_T := List.mem_filter.mpr ⟨List.mem_of_getElem? (i := 27) (by decide +kernel), by decide +kernel⟩
theorem wp_28 : (Cond.selects RM yM_beginCall yM_beginCall) ∈ kw_T := List.mem_filter.mpr ⟨List.mem_of_getElem? (i := 28) (by decide +kernel), by decide +kernel⟩
theorem wp_29 : (Cond.selects RM yM_ordered yM_ordered) ∈ kw_T := List.mem_filter.mpr ⟨List.mem_of_getElem? (i := 29) (by decide +kernel), by decide +kernel⟩
theorem wp_30 : (Cond.selects RM yM_live yM_live) ∈ kw_T := List.mem_filter.mpr ⟨List.mem_of_getElem? (i := 30) (by decide +kernel), by decide +kernel⟩
theorem wp_31 : (Cond.selects RM yM_done yM_done) ∈ kw_T := List.mem_filter.mpr ⟨List.mem_of_getElem? (i := 31) (by decide +kernel), by decide +kernel⟩
theorem wp_32 : (Cond.selects RM yM_divided yM_divided) ∈ kw_T := List.mem_filter.mpr ⟨List.mem_of_getElem? (i := 32) (by decide +kernel), by decide +kernel⟩
theorem wp_33 : (Cond.selects RM yM_looked yM_looked) ∈ kw_T := List.mem_filter.mpr ⟨List.mem_of_getElem? (i := 33) (by decide +kernel), by decide +kernel⟩
theorem wp_34 : (Cond.selects RM yM_asked yM_asked) ∈ kw_T := List.mem_filter.mpr ⟨List.mem_of_getElem? (i := 34) (by decide +kernel), by decide +kernel⟩
theorem wp_35 : (Cond.selects RM yM_fail yM_fail) ∈ kw_T := List.mem_filter.mpr ⟨List.mem_of_getElem? (i := 35) (by decide +kernel), by decide +kernel⟩
theorem wp_36 : (Cond.selects RM yM_noExtension yM_noExtension) ∈ kw_T := List.mem_filter.mpr ⟨List.mem_of_getElem? (i := 36) (by decide +kernel), by decide +kernel⟩
