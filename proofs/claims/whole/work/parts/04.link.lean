/-! tables of the interpreter: what an instruction's number in the constant pool means, by the class that holds the code (by program) -/
def zlk {α : Type} : List (Nat × α) → Nat → Option α
  | [], _ => none
  | q :: r, k => if q.1 = k then some q.2 else zlk r k
theorem zlk_mem {α : Type} {k : Nat} {v : α} : ∀ {l : List (Nat × α)}, zlk l k = some v → (k, v) ∈ l
  | [], h => by simp [zlk] at h
  | q :: r, h => by
    unfold zlk at h
    split at h
    · rename_i e
      have := Option.some.inj h
      subst e; subst this
      exact List.mem_cons_self
    · exact List.mem_cons_of_mem _ (zlk_mem h)
def zT (c k : Nat) : String × String × String × Bool := match vwCl[c]? with
  | some r => r.2.1 k
  | none => ("", "", "", false)
def zNf (c : Nat) : Nat := match vwCl[c]? with
  | some r => r.2.2
  | none => 0
def zXn (i : Nat) : MethodName := match i with
  | 1000 => objectInit
  | 1001 => Lib.Math.min.name
  | 1002 => Lib.Math.max.name
  | 1003 => Lib.Math.abs.name
  | 1004 => Lib.MathLoose.min_long.x
  | 1005 => Lib.MathLoose.max_long.x
  | 1006 => yJ0_length_8abf5
  | 1007 => yJ0_indexOf_0f7a4
  | 1008 => arraycopyName
  | _ => yL_person
def zFok (own : Nat) (q : Nat × Nat × Nat) : Prop := Cond.fieldLink (zRN own) q.1 (zRN q.2.1) (zT q.2.1 q.2.2).2.1 (zT q.2.1 q.2.2).2.2.1 ∈ lw_tbl ∧ q.2.1 < 13 ∧ q.2.2 < zNf q.2.1
def zF_0 : List (Nat × Nat × Nat) := [(16, 0, 0), (23, 0, 1), (27, 0, 2), (30, 0, 3)]
theorem zF_0_ok : ∀ q ∈ zF_0, zFok 0 q := List.forall_mem_cons.mpr ⟨⟨List.mem_of_getElem? (i := 179) (by decide +kernel), by decide, by decide⟩, List.forall_mem_cons.mpr ⟨⟨List.mem_of_getElem? (i := 181) (by decide +kernel), by decide, by decide⟩, List.forall_mem_cons.mpr ⟨⟨List.mem_of_getElem? (i := 182) (by decide +kernel), by decide, by decide⟩, List.forall_mem_cons.mpr ⟨⟨List.mem_of_getElem? (i := 183) (by decide +kernel), by decide, by decide⟩, fun _ h => absurd h List.not_mem_nil⟩⟩⟩⟩
def zF_1 : List (Nat × Nat × Nat) := [(14, 1, 1), (18, 1, 0), (30, 1, 2), (76, 0, 0)]
theorem zF_1_ok : ∀ q ∈ zF_1, zFok 1 q := List.forall_mem_cons.mpr ⟨⟨List.mem_of_getElem? (i := 202) (by decide +kernel), by decide, by decide⟩, List.forall_mem_cons.mpr ⟨⟨List.mem_of_getElem? (i := 201) (by decide +kernel), by decide, by decide⟩, List.forall_mem_cons.mpr ⟨⟨List.mem_of_getElem? (i := 203) (by decide +kernel), by decide, by decide⟩, List.forall_mem_cons.mpr ⟨⟨List.mem_of_getElem? (i := 180) (by decide +kernel), by decide, by decide⟩, fun _ h => absurd h List.not_mem_nil⟩⟩⟩⟩
def zF_2 : List (Nat × Nat × Nat) := [(12, 2, 2), (23, 2, 3), (27, 2, 4), (30, 2, 5), (33, 2, 6), (36, 2, 7), (39, 2, 0), (43, 2, 1), (51, 2, 8), (106, 8, 5), (113, 8, 7), (135, 8, 0)]
theorem zF_2_ok : ∀ q ∈ zF_2, zFok 2 q := List.forall_mem_cons.mpr ⟨⟨List.mem_of_getElem? (i := 411) (by decide +kernel), by decide, by decide⟩, List.forall_mem_cons.mpr ⟨⟨List.mem_of_getElem? (i := 412) (by decide +kernel), by decide, by decide⟩, List.forall_mem_cons.mpr ⟨⟨List.mem_of_getElem? (i := 413) (by decide +kernel), by decide, by decide⟩, List.forall_mem_cons.mpr ⟨⟨List.mem_of_getElem? (i := 414) (by decide +kernel), by decide, by decide⟩, List.forall_mem_cons.mpr ⟨⟨List.mem_of_getElem? (i := 415) (by decide +kernel), by decide, by decide⟩, List.forall_mem_cons.mpr ⟨⟨List.mem_of_getElem? (i := 416) (by decide +kernel), by decide, by decide⟩, List.forall_mem_cons.mpr ⟨⟨List.mem_of_getElem? (i := 409) (by decide +kernel), by decide, by decide⟩, List.forall_mem_cons.mpr ⟨⟨List.mem_of_getElem? (i := 410) (by decide +kernel), by decide, by decide⟩, List.forall_mem_cons.mpr ⟨⟨List.mem_of_getElem? (i := 417) (by decide +kernel), by decide, by decide⟩, List.forall_mem_cons.mpr ⟨⟨List.mem_of_getElem? (i := 273) (by decide +kernel), by decide, by decide⟩, List.forall_mem_cons.mpr ⟨⟨List.mem_of_getElem? (i := 284) (by decide +kernel), by decide, by decide⟩, List.forall_mem_cons.mpr ⟨⟨List.mem_of_getElem? (i := 258) (by decide +kernel), by decide, by decide⟩, fun _ h => absurd h List.not_mem_nil⟩⟩⟩⟩⟩⟩⟩⟩⟩⟩⟩⟩
def zF_3 : List (Nat × Nat × Nat) := [(13, 3, 2), (22, 3, 3), (27, 3, 4), (31, 3, 0), (35, 3, 1), (70, 8, 4), (85, 8, 6), (88, 8, 2)]
theorem zF_3_ok : ∀ q ∈ zF_3, zFok 3 q := List.forall_mem_cons.mpr ⟨⟨List.mem_of_getElem? (i := 385) (by decide +kernel), by decide, by decide⟩, List.forall_mem_cons.mpr ⟨⟨List.mem_of_getElem? (i := 386) (by decide +kernel), by decide, by decide⟩, List.forall_mem_cons.mpr ⟨⟨List.mem_of_getElem? (i := 387) (by decide +kernel), by decide, by decide⟩, List.forall_mem_cons.mpr ⟨⟨List.mem_of_getElem? (i := 383) (by decide +kernel), by decide, by decide⟩, List.forall_mem_cons.mpr ⟨⟨List.mem_of_getElem? (i := 384) (by decide +kernel), by decide, by decide⟩, List.forall_mem_cons.mpr ⟨⟨List.mem_of_getElem? (i := 268) (by decide +kernel), by decide, by decide⟩, List.forall_mem_cons.mpr ⟨⟨List.mem_of_getElem? (i := 278) (by decide +kernel), by decide, by decide⟩, List.forall_mem_cons.mpr ⟨⟨List.mem_of_getElem? (i := 263) (by decide +kernel), by decide, by decide⟩, fun _ h => absurd h List.not_mem_nil⟩⟩⟩⟩⟩⟩⟩⟩
def zF_4 : List (Nat × Nat × Nat) := [(14, 4, 0), (18, 4, 1), (21, 4, 2)]
theorem zF_4_ok : ∀ q ∈ zF_4, zFok 4 q := List.forall_mem_cons.mpr ⟨⟨List.mem_of_getElem? (i := 225) (by decide +kernel), by decide, by decide⟩, List.forall_mem_cons.mpr ⟨⟨List.mem_of_getElem? (i := 226) (by decide +kernel), by decide, by decide⟩, List.forall_mem_cons.mpr ⟨⟨List.mem_of_getElem? (i := 227) (by decide +kernel), by decide, by decide⟩, fun _ h => absurd h List.not_mem_nil⟩⟩⟩
def zF_5 : List (Nat × Nat × Nat) := [(12, 5, 1), (18, 5, 0)]
theorem zF_5_ok : ∀ q ∈ zF_5, zFok 5 q := List.forall_mem_cons.mpr ⟨⟨List.mem_of_getElem? (i := 236) (by decide +kernel), by decide, by decide⟩, List.forall_mem_cons.mpr ⟨⟨List.mem_of_getElem? (i := 235) (by decide +kernel), by decide, by decide⟩, fun _ h => absurd h List.not_mem_nil⟩⟩
def zF_6 : List (Nat × Nat × Nat) := [(13, 6, 0), (22, 6, 1), (26, 6, 2), (30, 6, 3), (34, 6, 4), (38, 6, 6), (42, 6, 5), (59, 8, 10), (66, 8, 5), (75, 8, 7)]
theorem zF_6_ok : ∀ q ∈ zF_6, zFok 6 q := List.forall_mem_cons.mpr ⟨⟨List.mem_of_getElem? (i := 327) (by decide +kernel), by decide, by decide⟩, List.forall_mem_cons.mpr ⟨⟨List.mem_of_getElem? (i := 328) (by decide +kernel), by decide, by decide⟩, List.forall_mem_cons.mpr ⟨⟨List.mem_of_getElem? (i := 329) (by decide +kernel), by decide, by decide⟩, List.forall_mem_cons.mpr ⟨⟨List.mem_of_getElem? (i := 330) (by decide +kernel), by decide, by decide⟩, List.forall_mem_cons.mpr ⟨⟨List.mem_of_getElem? (i := 331) (by decide +kernel), by decide, by decide⟩, List.forall_mem_cons.mpr ⟨⟨List.mem_of_getElem? (i := 333) (by decide +kernel), by decide, by decide⟩, List.forall_mem_cons.mpr ⟨⟨List.mem_of_getElem? (i := 332) (by decide +kernel), by decide, by decide⟩, List.forall_mem_cons.mpr ⟨⟨List.mem_of_getElem? (i := 292) (by decide +kernel), by decide, by decide⟩, List.forall_mem_cons.mpr ⟨⟨List.mem_of_getElem? (i := 272) (by decide +kernel), by decide, by decide⟩, List.forall_mem_cons.mpr ⟨⟨List.mem_of_getElem? (i := 282) (by decide +kernel), by decide, by decide⟩, fun _ h => absurd h List.not_mem_nil⟩⟩⟩⟩⟩⟩⟩⟩⟩⟩
def zF_7 : List (Nat × Nat × Nat) := [(7, 7, 0)]
theorem zF_7_ok : ∀ q ∈ zF_7, zFok 7 q := List.forall_mem_cons.mpr ⟨⟨List.mem_of_getElem? (i := 175) (by decide +kernel), by decide, by decide⟩, fun _ h => absurd h List.not_mem_nil⟩
def zF_8 : List (Nat × Nat × Nat) := [(14, 8, 0), (20, 8, 1), (23, 8, 2), (26, 8, 3), (33, 8, 4), (37, 8, 5), (40, 8, 6), (43, 8, 7), (46, 8, 8), (49, 8, 9), (52, 8, 10)]
theorem zF_8_ok : ∀ q ∈ zF_8, zFok 8 q := List.forall_mem_cons.mpr ⟨⟨List.mem_of_getElem? (i := 255) (by decide +kernel), by decide, by decide⟩, List.forall_mem_cons.mpr ⟨⟨List.mem_of_getElem? (i := 259) (by decide +kernel), by decide, by decide⟩, List.forall_mem_cons.mpr ⟨⟨List.mem_of_getElem? (i := 262) (by decide +kernel), by decide, by decide⟩, List.forall_mem_cons.mpr ⟨⟨List.mem_of_getElem? (i := 266) (by decide +kernel), by decide, by decide⟩, List.forall_mem_cons.mpr ⟨⟨List.mem_of_getElem? (i := 267) (by decide +kernel), by decide, by decide⟩, List.forall_mem_cons.mpr ⟨⟨List.mem_of_getElem? (i := 271) (by decide +kernel), by decide, by decide⟩, List.forall_mem_cons.mpr ⟨⟨List.mem_of_getElem? (i := 276) (by decide +kernel), by decide, by decide⟩, List.forall_mem_cons.mpr ⟨⟨List.mem_of_getElem? (i := 280) (by decide +kernel), by decide, by decide⟩, List.forall_mem_cons.mpr ⟨⟨List.mem_of_getElem? (i := 285) (by decide +kernel), by decide, by decide⟩, List.forall_mem_cons.mpr ⟨⟨List.mem_of_getElem? (i := 288) (by decide +kernel), by decide, by decide⟩, List.forall_mem_cons.mpr ⟨⟨List.mem_of_getElem? (i := 291) (by decide +kernel), by decide, by decide⟩, fun _ h => absurd h List.not_mem_nil⟩⟩⟩⟩⟩⟩⟩⟩⟩⟩⟩
def zF_9 : List (Nat × Nat × Nat) := [(9, 9, 0), (15, 9, 1), (19, 9, 2)]
theorem zF_9_ok : ∀ q ∈ zF_9, zFok 9 q := List.forall_mem_cons.mpr ⟨⟨List.mem_of_getElem? (i := 152) (by decide +kernel), by decide, by decide⟩, List.forall_mem_cons.mpr ⟨⟨List.mem_of_getElem? (i := 153) (by decide +kernel), by decide, by decide⟩, List.forall_mem_cons.mpr ⟨⟨List.mem_of_getElem? (i := 154) (by decide +kernel), by decide, by decide⟩, fun _ h => absurd h List.not_mem_nil⟩⟩⟩
def zF_10 : List (Nat × Nat × Nat) := [(14, 10, 1), (20, 10, 2), (23, 10, 3), (26, 10, 0), (30, 10, 4), (45, 8, 6), (52, 8, 7), (58, 8, 8), (64, 8, 0), (91, 8, 1), (97, 8, 9), (139, 8, 2), (167, 8, 5), (170, 8, 4)]
theorem zF_10_ok : ∀ q ∈ zF_10, zFok 10 q := List.forall_mem_cons.mpr ⟨⟨List.mem_of_getElem? (i := 358) (by decide +kernel), by decide, by decide⟩, List.forall_mem_cons.mpr ⟨⟨List.mem_of_getElem? (i := 359) (by decide +kernel), by decide, by decide⟩, List.forall_mem_cons.mpr ⟨⟨List.mem_of_getElem? (i := 360) (by decide +kernel), by decide, by decide⟩, List.forall_mem_cons.mpr ⟨⟨List.mem_of_getElem? (i := 357) (by decide +kernel), by decide, by decide⟩, List.forall_mem_cons.mpr ⟨⟨List.mem_of_getElem? (i := 361) (by decide +kernel), by decide, by decide⟩, List.forall_mem_cons.mpr ⟨⟨List.mem_of_getElem? (i := 277) (by decide +kernel), by decide, by decide⟩, List.forall_mem_cons.mpr ⟨⟨List.mem_of_getElem? (i := 281) (by decide +kernel), by decide, by decide⟩, List.forall_mem_cons.mpr ⟨⟨List.mem_of_getElem? (i := 286) (by decide +kernel), by decide, by decide⟩, List.forall_mem_cons.mpr ⟨⟨List.mem_of_getElem? (i := 256) (by decide +kernel), by decide, by decide⟩, List.forall_mem_cons.mpr ⟨⟨List.mem_of_getElem? (i := 260) (by decide +kernel), by decide, by decide⟩, List.forall_mem_cons.mpr ⟨⟨List.mem_of_getElem? (i := 289) (by decide +kernel), by decide, by decide⟩, List.forall_mem_cons.mpr ⟨⟨List.mem_of_getElem? (i := 264) (by decide +kernel), by decide, by decide⟩, List.forall_mem_cons.mpr ⟨⟨List.mem_of_getElem? (i := 274) (by decide +kernel), by decide, by decide⟩, List.forall_mem_cons.mpr ⟨⟨List.mem_of_getElem? (i := 269) (by decide +kernel), by decide, by decide⟩, fun _ h => absurd h List.not_mem_nil⟩⟩⟩⟩⟩⟩⟩⟩⟩⟩⟩⟩⟩⟩
def zF_11 : List (Nat × Nat × Nat) := [(10, 11, 0), (19, 11, 1), (28, 11, 2), (35, 11, 3), (41, 11, 4), (51, 11, 5), (58, 11, 6), (65, 11, 7), (74, 11, 8), (83, 11, 9), (90, 11, 10), (94, 11, 11), (98, 11, 12), (101, 11, 13), (104, 11, 14), (174, 8, 7), (177, 8, 8), (187, 8, 0), (214, 8, 1), (220, 8, 2), (257, 8, 4), (260, 8, 5), (276, 8, 6), (287, 8, 9)]
theorem zF_11_ok : ∀ q ∈ zF_11, zFok 11 q := List.forall_mem_cons.mpr ⟨⟨List.mem_of_getElem? (i := 437) (by decide +kernel), by decide, by decide⟩, List.forall_mem_cons.mpr ⟨⟨List.mem_of_getElem? (i := 438) (by decide +kernel), by decide, by decide⟩, List.forall_mem_cons.mpr ⟨⟨List.mem_of_getElem? (i := 439) (by decide +kernel), by decide, by decide⟩, List.forall_mem_cons.mpr ⟨⟨List.mem_of_getElem? (i := 440) (by decide +kernel), by decide, by decide⟩, List.forall_mem_cons.mpr ⟨⟨List.mem_of_getElem? (i := 441) (by decide +kernel), by decide, by decide⟩, List.forall_mem_cons.mpr ⟨⟨List.mem_of_getElem? (i := 442) (by decide +kernel), by decide, by decide⟩, List.forall_mem_cons.mpr ⟨⟨List.mem_of_getElem? (i := 443) (by decide +kernel), by decide, by decide⟩, List.forall_mem_cons.mpr ⟨⟨List.mem_of_getElem? (i := 444) (by decide +kernel), by decide, by decide⟩, List.forall_mem_cons.mpr ⟨⟨List.mem_of_getElem? (i := 445) (by decide +kernel), by decide, by decide⟩, List.forall_mem_cons.mpr ⟨⟨List.mem_of_getElem? (i := 446) (by decide +kernel), by decide, by decide⟩, List.forall_mem_cons.mpr ⟨⟨List.mem_of_getElem? (i := 447) (by decide +kernel), by decide, by decide⟩, List.forall_mem_cons.mpr ⟨⟨List.mem_of_getElem? (i := 448) (by decide +kernel), by decide, by decide⟩, List.forall_mem_cons.mpr ⟨⟨List.mem_of_getElem? (i := 449) (by decide +kernel), by decide, by decide⟩, List.forall_mem_cons.mpr ⟨⟨List.mem_of_getElem? (i := 450) (by decide +kernel), by decide, by decide⟩, List.forall_mem_cons.mpr ⟨⟨List.mem_of_getElem? (i := 451) (by decide +kernel), by decide, by decide⟩, List.forall_mem_cons.mpr ⟨⟨List.mem_of_getElem? (i := 283) (by decide +kernel), by decide, by decide⟩, List.forall_mem_cons.mpr ⟨⟨List.mem_of_getElem? (i := 287) (by decide +kernel), by decide, by decide⟩, List.forall_mem_cons.mpr ⟨⟨List.mem_of_getElem? (i := 257) (by decide +kernel), by decide, by decide⟩, List.forall_mem_cons.mpr ⟨⟨List.mem_of_getElem? (i := 261) (by decide +kernel), by decide, by decide⟩, List.forall_mem_cons.mpr ⟨⟨List.mem_of_getElem? (i := 265) (by decide +kernel), by decide, by decide⟩, List.forall_mem_cons.mpr ⟨⟨List.mem_of_getElem? (i := 270) (by decide +kernel), by decide, by decide⟩, List.forall_mem_cons.mpr ⟨⟨List.mem_of_getElem? (i := 275) (by decide +kernel), by decide, by decide⟩, List.forall_mem_cons.mpr ⟨⟨List.mem_of_getElem? (i := 279) (by decide +kernel), by decide, by decide⟩, List.forall_mem_cons.mpr ⟨⟨List.mem_of_getElem? (i := 290) (by decide +kernel), by decide, by decide⟩, fun _ h => absurd h List.not_mem_nil⟩⟩⟩⟩⟩⟩⟩⟩⟩⟩⟩⟩⟩⟩⟩⟩⟩⟩⟩⟩⟩⟩⟩⟩
def zF_12 : List (Nat × Nat × Nat) := [(9, 12, 1), (13, 12, 6), (16, 12, 7), (19, 12, 8), (22, 12, 9), (25, 12, 10), (28, 12, 11), (31, 12, 12), (34, 12, 15), (37, 12, 16), (40, 12, 17), (43, 12, 18), (46, 12, 19), (49, 12, 22), (52, 12, 23), (55, 12, 24), (58, 12, 28), (61, 12, 29), (64, 12, 30), (68, 12, 31), (71, 12, 32), (74, 12, 33), (77, 12, 34), (80, 12, 37), (83, 12, 40), (86, 12, 41), (89, 12, 42), (93, 12, 46), (96, 12, 0), (103, 12, 2), (106, 12, 3), (113, 12, 4), (116, 12, 14), (119, 12, 5), (235, 12, 20), (238, 12, 21), (255, 12, 25), (258, 12, 26), (261, 12, 27), (267, 12, 43), (270, 12, 35), (273, 12, 47), (280, 12, 13), (366, 12, 36), (392, 12, 38), (395, 12, 39), (417, 12, 44), (420, 12, 45)]
theorem zF_12_ok : ∀ q ∈ zF_12, zFok 12 q := List.forall_mem_cons.mpr ⟨⟨List.mem_of_getElem? (i := 1483) (by decide +kernel), by decide, by decide⟩, List.forall_mem_cons.mpr ⟨⟨List.mem_of_getElem? (i := 1488) (by decide +kernel), by decide, by decide⟩, List.forall_mem_cons.mpr ⟨⟨List.mem_of_getElem? (i := 1489) (by decide +kernel), by decide, by decide⟩, List.forall_mem_cons.mpr ⟨⟨List.mem_of_getElem? (i := 1490) (by decide +kernel), by decide, by decide⟩, List.forall_mem_cons.mpr ⟨⟨List.mem_of_getElem? (i := 1491) (by decide +kernel), by decide, by decide⟩, List.forall_mem_cons.mpr ⟨⟨List.mem_of_getElem? (i := 1492) (by decide +kernel), by decide, by decide⟩, List.forall_mem_cons.mpr ⟨⟨List.mem_of_getElem? (i := 1493) (by decide +kernel), by decide, by decide⟩, List.forall_mem_cons.mpr ⟨⟨List.mem_of_getElem? (i := 1494) (by decide +kernel), by decide, by decide⟩, List.forall_mem_cons.mpr ⟨⟨List.mem_of_getElem? (i := 1497) (by decide +kernel), by decide, by decide⟩, List.forall_mem_cons.mpr ⟨⟨List.mem_of_getElem? (i := 1498) (by decide +kernel), by decide, by decide⟩, List.forall_mem_cons.mpr ⟨⟨List.mem_of_getElem? (i := 1499) (by decide +kernel), by decide, by decide⟩, List.forall_mem_cons.mpr ⟨⟨List.mem_of_getElem? (i := 1500) (by decide +kernel), by decide, by decide⟩, List.forall_mem_cons.mpr ⟨⟨List.mem_of_getElem? (i := 1501) (by decide +kernel), by decide, by decide⟩, List.forall_mem_cons.mpr ⟨⟨List.mem_of_getElem? (i := 1504) (by decide +kernel), by decide, by decide⟩, List.forall_mem_cons.mpr ⟨⟨List.mem_of_getElem? (i := 1505) (by decide +kernel), by decide, by decide⟩, List.forall_mem_cons.mpr ⟨⟨List.mem_of_getElem? (i := 1506) (by decide +kernel), by decide, by decide⟩, List.forall_mem_cons.mpr ⟨⟨List.mem_of_getElem? (i := 1510) (by decide +kernel), by decide, by decide⟩, List.forall_mem_cons.mpr ⟨⟨List.mem_of_getElem? (i := 1511) (by decide +kernel), by decide, by decide⟩, List.forall_mem_cons.mpr ⟨⟨List.mem_of_getElem? (i := 1512) (by decide +kernel), by decide, by decide⟩, List.forall_mem_cons.mpr ⟨⟨List.mem_of_getElem? (i := 1513) (by decide +kernel), by decide, by decide⟩, List.forall_mem_cons.mpr ⟨⟨List.mem_of_getElem? (i := 1514) (by decide +kernel), by decide, by decide⟩, List.forall_mem_cons.mpr ⟨⟨List.mem_of_getElem? (i := 1515) (by decide +kernel), by decide, by decide⟩, List.forall_mem_cons.mpr ⟨⟨List.mem_of_getElem? (i := 1516) (by decide +kernel), by decide, by decide⟩, List.forall_mem_cons.mpr ⟨⟨List.mem_of_getElem? (i := 1519) (by decide +kernel), by decide, by decide⟩, List.forall_mem_cons.mpr ⟨⟨List.mem_of_getElem? (i := 1522) (by decide +kernel), by decide, by decide⟩, List.forall_mem_cons.mpr ⟨⟨List.mem_of_getElem? (i := 1523) (by decide +kernel), by decide, by decide⟩, List.forall_mem_cons.mpr ⟨⟨List.mem_of_getElem? (i := 1524) (by decide +kernel), by decide, by decide⟩, List.forall_mem_cons.mpr ⟨⟨List.mem_of_getElem? (i := 1528) (by decide +kernel), by decide, by decide⟩, List.forall_mem_cons.mpr ⟨⟨List.mem_of_getElem? (i := 1482) (by decide +kernel), by decide, by decide⟩, List.forall_mem_cons.mpr ⟨⟨List.mem_of_getElem? (i := 1484) (by decide +kernel), by decide, by decide⟩, List.forall_mem_cons.mpr ⟨⟨List.mem_of_getElem? (i := 1485) (by decide +kernel), by decide, by decide⟩, List.forall_mem_cons.mpr ⟨⟨List.mem_of_getElem? (i := 1486) (by decide +kernel), by decide, by decide⟩, List.forall_mem_cons.mpr ⟨⟨List.mem_of_getElem? (i := 1496) (by decide +kernel), by decide, by decide⟩, List.forall_mem_cons.mpr ⟨⟨List.mem_of_getElem? (i := 1487) (by decide +kernel), by decide, by decide⟩, List.forall_mem_cons.mpr ⟨⟨List.mem_of_getElem? (i := 1502) (by decide +kernel), by decide, by decide⟩, List.forall_mem_cons.mpr ⟨⟨List.mem_of_getElem? (i := 1503) (by decide +kernel), by decide, by decide⟩, List.forall_mem_cons.mpr ⟨⟨List.mem_of_getElem? (i := 1507) (by decide +kernel), by decide, by decide⟩, List.forall_mem_cons.mpr ⟨⟨List.mem_of_getElem? (i := 1508) (by decide +kernel), by decide, by decide⟩, List.forall_mem_cons.mpr ⟨⟨List.mem_of_getElem? (i := 1509) (by decide +kernel), by decide, by decide⟩, List.forall_mem_cons.mpr ⟨⟨List.mem_of_getElem? (i := 1525) (by decide +kernel), by decide, by decide⟩, List.forall_mem_cons.mpr ⟨⟨List.mem_of_getElem? (i := 1517) (by decide +kernel), by decide, by decide⟩, List.forall_mem_cons.mpr ⟨⟨List.mem_of_getElem? (i := 1529) (by decide +kernel), by decide, by decide⟩, List.forall_mem_cons.mpr ⟨⟨List.mem_of_getElem? (i := 1495) (by decide +kernel), by decide, by decide⟩, List.forall_mem_cons.mpr ⟨⟨List.mem_of_getElem? (i := 1518) (by decide +kernel), by decide, by decide⟩, List.forall_mem_cons.mpr ⟨⟨List.mem_of_getElem? (i := 1520) (by decide +kernel), by decide, by decide⟩, List.forall_mem_cons.mpr ⟨⟨List.mem_of_getElem? (i := 1521) (by decide +kernel), by decide, by decide⟩, List.forall_mem_cons.mpr ⟨⟨List.mem_of_getElem? (i := 1526) (by decide +kernel), by decide, by decide⟩, List.forall_mem_cons.mpr ⟨⟨List.mem_of_getElem? (i := 1527) (by decide +kernel), by decide, by decide⟩, fun _ h => absurd h List.not_mem_nil⟩⟩⟩⟩⟩⟩⟩⟩⟩⟩⟩⟩⟩⟩⟩⟩⟩⟩⟩⟩⟩⟩⟩⟩⟩⟩⟩⟩⟩⟩⟩⟩⟩⟩⟩⟩⟩⟩⟩⟩⟩⟩⟩⟩⟩⟩⟩⟩
def zF_13 : List (Nat × Nat × Nat) := []
theorem zF_13_ok : ∀ q ∈ zF_13, zFok 13 q := fun _ h => absurd h List.not_mem_nil
def zF_14 : List (Nat × Nat × Nat) := []
theorem zF_14_ok : ∀ q ∈ zF_14, zFok 14 q := fun _ h => absurd h List.not_mem_nil
def zF_all : List (List (Nat × Nat × Nat)) := [zF_0, zF_1, zF_2, zF_3, zF_4, zF_5, zF_6, zF_7, zF_8, zF_9, zF_10, zF_11, zF_12, zF_13, zF_14]
def zF (own idx : Nat) : Option (Nat × Nat) := (zF_all[own]?).bind (fun r => zlk r idx)
theorem zF_ok {own idx : Nat} {v : Nat × Nat} (h : zF own idx = some v) : zFok own (idx, v) := by
  obtain ⟨r, h1, h2⟩ := Option.bind_eq_some_iff.mp h
  have h3 := zlk_mem h2
  match own, h1 with
  | 0, h1 => cases h1; exact zF_0_ok _ h3
  | 1, h1 => cases h1; exact zF_1_ok _ h3
  | 2, h1 => cases h1; exact zF_2_ok _ h3
  | 3, h1 => cases h1; exact zF_3_ok _ h3
  | 4, h1 => cases h1; exact zF_4_ok _ h3
  | 5, h1 => cases h1; exact zF_5_ok _ h3
  | 6, h1 => cases h1; exact zF_6_ok _ h3
  | 7, h1 => cases h1; exact zF_7_ok _ h3
  | 8, h1 => cases h1; exact zF_8_ok _ h3
  | 9, h1 => cases h1; exact zF_9_ok _ h3
  | 10, h1 => cases h1; exact zF_10_ok _ h3
  | 11, h1 => cases h1; exact zF_11_ok _ h3
  | 12, h1 => cases h1; exact zF_12_ok _ h3
  | 13, h1 => cases h1; exact zF_13_ok _ h3
  | 14, h1 => cases h1; exact zF_14_ok _ h3
  | n + 15, h1 => simp [zF_all] at h1
def zMok (own : Nat) (q : Nat × Nat) : Prop := ∃ e, zMt q.2 = some e ∧ Cond.methodLink (zRN own) q.1 e.1 ∈ lw_tbl
def zM_0 : List (Nat × Nat) := [(13, 100), (20, 104), (33, 105), (37, 101), (41, 7), (45, 11), (48, 15), (52, 16), (55, 5), (59, 26), (62, 22), (65, 27), (68, 28)]
theorem zM_0_ok : ∀ q ∈ zM_0, zMok 0 q := List.forall_mem_cons.mpr ⟨⟨zM_X7_init, rfl, List.mem_of_getElem? (i := 171) (by decide +kernel)⟩, List.forall_mem_cons.mpr ⟨⟨zM_X7_clear, rfl, List.mem_of_getElem? (i := 522) (by decide +kernel)⟩, List.forall_mem_cons.mpr ⟨⟨zM_X7_become, rfl, List.mem_of_getElem? (i := 794) (by decide +kernel)⟩, List.forall_mem_cons.mpr ⟨⟨zM_X7_get, rfl, List.mem_of_getElem? (i := 606) (by decide +kernel)⟩, List.forall_mem_cons.mpr ⟨⟨zM_X0_rows, rfl, List.mem_of_getElem? (i := 854) (by decide +kernel)⟩, List.forall_mem_cons.mpr ⟨⟨zM_X0_cells, rfl, List.mem_of_getElem? (i := 947) (by decide +kernel)⟩, List.forall_mem_cons.mpr ⟨⟨zM_X0_hasPerson, rfl, List.mem_of_getElem? (i := 930) (by decide +kernel)⟩, List.forall_mem_cons.mpr ⟨⟨zM_X0_hasSecret, rfl, List.mem_of_getElem? (i := 934) (by decide +kernel)⟩, List.forall_mem_cons.mpr ⟨⟨zM_X0_isTold, rfl, List.mem_of_getElem? (i := 1258) (by decide +kernel)⟩, List.forall_mem_cons.mpr ⟨⟨zM_X0_isWithin, rfl, List.mem_of_getElem? (i := 602) (by decide +kernel)⟩, List.forall_mem_cons.mpr ⟨⟨zM_X0_owner, rfl, List.mem_of_getElem? (i := 610) (by decide +kernel)⟩, List.forall_mem_cons.mpr ⟨⟨zM_X0_rowOf, rfl, List.mem_of_getElem? (i := 957) (by decide +kernel)⟩, List.forall_mem_cons.mpr ⟨⟨zM_X0_placeOf, rfl, List.mem_of_getElem? (i := 961) (by decide +kernel)⟩, fun _ h => absurd h List.not_mem_nil⟩⟩⟩⟩⟩⟩⟩⟩⟩⟩⟩⟩⟩
def zM_1 : List (Nat × Nat) := [(22, 124), (27, 1), (34, 37), (38, 36), (42, 130), (46, 129), (50, 25), (53, 125), (60, 38), (64, 12), (67, 3), (70, 13), (73, 4), (80, 35), (84, 102), (90, 126), (93, 39), (97, 40), (101, 132), (104, 127)]
theorem zM_1_ok : ∀ q ∈ zM_1, zMok 1 q := List.forall_mem_cons.mpr ⟨⟨zM_X9_rewind, rfl, List.mem_of_getElem? (i := 514) (by decide +kernel)⟩, List.forall_mem_cons.mpr ⟨⟨zM_X0_clear, rfl, List.mem_of_getElem? (i := 518) (by decide +kernel)⟩, List.forall_mem_cons.mpr ⟨⟨zM_X1_fillIn, rfl, List.mem_of_getElem? (i := 526) (by decide +kernel)⟩, List.forall_mem_cons.mpr ⟨⟨zM_X1_clause, rfl, List.mem_of_getElem? (i := 539) (by decide +kernel)⟩, List.forall_mem_cons.mpr ⟨⟨zM_X9_take, rfl, List.mem_of_getElem? (i := 593) (by decide +kernel)⟩, List.forall_mem_cons.mpr ⟨⟨zM_X9_next, rfl, List.mem_of_getElem? (i := 543) (by decide +kernel)⟩, List.forall_mem_cons.mpr ⟨⟨zM_X0_stands, rfl, List.mem_of_getElem? (i := 598) (by decide +kernel)⟩, List.forall_mem_cons.mpr ⟨⟨zM_X9_place, rfl, List.mem_of_getElem? (i := 614) (by decide +kernel)⟩, List.forall_mem_cons.mpr ⟨⟨zM_X1_items, rfl, List.mem_of_getElem? (i := 547) (by decide +kernel)⟩, List.forall_mem_cons.mpr ⟨⟨zM_X0_persons, rfl, List.mem_of_getElem? (i := 577) (by decide +kernel)⟩, List.forall_mem_cons.mpr ⟨⟨zM_X0_addPerson, rfl, List.mem_of_getElem? (i := 581) (by decide +kernel)⟩, List.forall_mem_cons.mpr ⟨⟨zM_X0_secrets, rfl, List.mem_of_getElem? (i := 585) (by decide +kernel)⟩, List.forall_mem_cons.mpr ⟨⟨zM_X0_addSecret, rfl, List.mem_of_getElem? (i := 589) (by decide +kernel)⟩, List.forall_mem_cons.mpr ⟨⟨zM_X1_item, rfl, List.mem_of_getElem? (i := 530) (by decide +kernel)⟩, List.forall_mem_cons.mpr ⟨⟨zM_X7_set, rfl, List.mem_of_getElem? (i := 535) (by decide +kernel)⟩, List.forall_mem_cons.mpr ⟨⟨zM_X9_skip, rfl, List.mem_of_getElem? (i := 551) (by decide +kernel)⟩, List.forall_mem_cons.mpr ⟨⟨zM_X1_find, rfl, List.mem_of_getElem? (i := 555) (by decide +kernel)⟩, List.forall_mem_cons.mpr ⟨⟨zM_X1_number, rfl, List.mem_of_getElem? (i := 558) (by decide +kernel)⟩, List.forall_mem_cons.mpr ⟨⟨zM_X9_number, rfl, List.mem_of_getElem? (i := 562) (by decide +kernel)⟩, List.forall_mem_cons.mpr ⟨⟨zM_X9_stepBack, rfl, List.mem_of_getElem? (i := 573) (by decide +kernel)⟩, fun _ h => absurd h List.not_mem_nil⟩⟩⟩⟩⟩⟩⟩⟩⟩⟩⟩⟩⟩⟩⟩⟩⟩⟩⟩⟩
def zM_2 : List (Nat × Nat) := [(20, 100), (47, 107), (55, 102), (59, 136), (65, 101), (69, 45), (73, 46), (77, 47), (80, 324), (85, 11), (91, 50), (100, 13), (103, 23), (109, 53), (116, 51), (119, 142), (122, 138), (125, 30), (129, 29), (132, 55), (138, 56), (142, 58)]
theorem zM_2_ok : ∀ q ∈ zM_2, zMok 2 q := List.forall_mem_cons.mpr ⟨⟨zM_X7_init, rfl, List.mem_of_getElem? (i := 408) (by decide +kernel)⟩, List.forall_mem_cons.mpr ⟨⟨zM_X8_become, rfl, List.mem_of_getElem? (i := 845) (by decide +kernel)⟩, List.forall_mem_cons.mpr ⟨⟨zM_X7_set, rfl, List.mem_of_getElem? (i := 1302) (by decide +kernel)⟩, List.forall_mem_cons.mpr ⟨⟨zM_X10_strengthAt, rfl, List.mem_of_getElem? (i := 1324) (by decide +kernel)⟩, List.forall_mem_cons.mpr ⟨⟨zM_X7_get, rfl, List.mem_of_getElem? (i := 1319) (by decide +kernel)⟩, List.forall_mem_cons.mpr ⟨⟨zM_X2_smellsAsTold, rfl, List.mem_of_getElem? (i := 1320) (by decide +kernel)⟩, List.forall_mem_cons.mpr ⟨⟨zM_X2_fits, rfl, List.mem_of_getElem? (i := 1315) (by decide +kernel)⟩, List.forall_mem_cons.mpr ⟨⟨zM_X2_fitting, rfl, List.mem_of_getElem? (i := 1311) (by decide +kernel)⟩, List.forall_mem_cons.mpr ⟨⟨zM_J6_bitCount_0f7a4, rfl, List.mem_of_getElem? (i := 1325) (by decide +kernel)⟩, List.forall_mem_cons.mpr ⟨⟨zM_X0_cells, rfl, List.mem_of_getElem? (i := 1334) (by decide +kernel)⟩, List.forall_mem_cons.mpr ⟨⟨zM_X2_apart, rfl, List.mem_of_getElem? (i := 1335) (by decide +kernel)⟩, List.forall_mem_cons.mpr ⟨⟨zM_X0_secrets, rfl, List.mem_of_getElem? (i := 1350) (by decide +kernel)⟩, List.forall_mem_cons.mpr ⟨⟨zM_X0_heavy, rfl, List.mem_of_getElem? (i := 1360) (by decide +kernel)⟩, List.forall_mem_cons.mpr ⟨⟨zM_X2_lackedBy, rfl, List.mem_of_getElem? (i := 1351) (by decide +kernel)⟩, List.forall_mem_cons.mpr ⟨⟨zM_X2_heavyTogether, rfl, List.mem_of_getElem? (i := 1356) (by decide +kernel)⟩, List.forall_mem_cons.mpr ⟨⟨zM_X10_lacks, rfl, List.mem_of_getElem? (i := 1355) (by decide +kernel)⟩, List.forall_mem_cons.mpr ⟨⟨zM_X10_airAt, rfl, List.mem_of_getElem? (i := 1370) (by decide +kernel)⟩, List.forall_mem_cons.mpr ⟨⟨zM_X0_steps, rfl, List.mem_of_getElem? (i := 1371) (by decide +kernel)⟩, List.forall_mem_cons.mpr ⟨⟨zM_X0_beside, rfl, List.mem_of_getElem? (i := 1393) (by decide +kernel)⟩, List.forall_mem_cons.mpr ⟨⟨zM_X2_goes, rfl, List.mem_of_getElem? (i := 1389) (by decide +kernel)⟩, List.forall_mem_cons.mpr ⟨⟨zM_X2_gain, rfl, List.mem_of_getElem? (i := 1402) (by decide +kernel)⟩, List.forall_mem_cons.mpr ⟨⟨zM_X2_isRest, rfl, List.mem_of_getElem? (i := 1403) (by decide +kernel)⟩, fun _ h => absurd h List.not_mem_nil⟩⟩⟩⟩⟩⟩⟩⟩⟩⟩⟩⟩⟩⟩⟩⟩⟩⟩⟩⟩⟩⟩
def zM_3 : List (Nat × Nat) := [(19, 100), (39, 107), (43, 113), (47, 144), (53, 111), (57, 142), (66, 109), (74, 63), (78, 65), (81, 64), (91, 101), (99, 102), (103, 67)]
theorem zM_3_ok : ∀ q ∈ zM_3, zMok 3 q := List.forall_mem_cons.mpr ⟨⟨zM_X7_init, rfl, List.mem_of_getElem? (i := 381) (by decide +kernel)⟩, List.forall_mem_cons.mpr ⟨⟨zM_X8_become, rfl, List.mem_of_getElem? (i := 1238) (by decide +kernel)⟩, List.forall_mem_cons.mpr ⟨⟨zM_X8_knows, rfl, List.mem_of_getElem? (i := 1239) (by decide +kernel)⟩, List.forall_mem_cons.mpr ⟨⟨zM_X10_pass, rfl, List.mem_of_getElem? (i := 1240) (by decide +kernel)⟩, List.forall_mem_cons.mpr ⟨⟨zM_X8_isCured, rfl, List.mem_of_getElem? (i := 1249) (by decide +kernel)⟩, List.forall_mem_cons.mpr ⟨⟨zM_X10_lacks, rfl, List.mem_of_getElem? (i := 1264) (by decide +kernel)⟩, List.forall_mem_cons.mpr ⟨⟨zM_X8_pick, rfl, List.mem_of_getElem? (i := 1266) (by decide +kernel)⟩, List.forall_mem_cons.mpr ⟨⟨zM_X3_passTillKnown, rfl, List.mem_of_getElem? (i := 1267) (by decide +kernel)⟩, List.forall_mem_cons.mpr ⟨⟨zM_X3_digits, rfl, List.mem_of_getElem? (i := 1276) (by decide +kernel)⟩, List.forall_mem_cons.mpr ⟨⟨zM_X3_firstNew, rfl, List.mem_of_getElem? (i := 1271) (by decide +kernel)⟩, List.forall_mem_cons.mpr ⟨⟨zM_X7_get, rfl, List.mem_of_getElem? (i := 1275) (by decide +kernel)⟩, List.forall_mem_cons.mpr ⟨⟨zM_X7_set, rfl, List.mem_of_getElem? (i := 1288) (by decide +kernel)⟩, List.forall_mem_cons.mpr ⟨⟨zM_X3_stepByChance, rfl, List.mem_of_getElem? (i := 1289) (by decide +kernel)⟩, fun _ h => absurd h List.not_mem_nil⟩⟩⟩⟩⟩⟩⟩⟩⟩⟩⟩⟩⟩
def zM_4 : List (Nat × Nat) := [(11, 100), (25, 105), (29, 102), (33, 71), (36, 101), (53, 75)]
theorem zM_4_ok : ∀ q ∈ zM_4, zMok 4 q := List.forall_mem_cons.mpr ⟨⟨zM_X7_init, rfl, List.mem_of_getElem? (i := 224) (by decide +kernel)⟩, List.forall_mem_cons.mpr ⟨⟨zM_X7_become, rfl, List.mem_of_getElem? (i := 874) (by decide +kernel)⟩, List.forall_mem_cons.mpr ⟨⟨zM_X7_set, rfl, List.mem_of_getElem? (i := 660) (by decide +kernel)⟩, List.forall_mem_cons.mpr ⟨⟨zM_X4_add, rfl, List.mem_of_getElem? (i := 771) (by decide +kernel)⟩, List.forall_mem_cons.mpr ⟨⟨zM_X7_get, rfl, List.mem_of_getElem? (i := 970) (by decide +kernel)⟩, List.forall_mem_cons.mpr ⟨⟨zM_X4_workOut, rfl, List.mem_of_getElem? (i := 974) (by decide +kernel)⟩, fun _ h => absurd h List.not_mem_nil⟩⟩⟩⟩⟩⟩
def zM_5 : List (Nat × Nat) := [(22, 124), (27, 69), (30, 79), (34, 130), (38, 129), (42, 125), (45, 81), (48, 80), (51, 87), (54, 85), (57, 86), (60, 83), (63, 82), (66, 71), (70, 72), (73, 73), (76, 84), (79, 126), (82, 88), (85, 89), (88, 131), (91, 132)]
theorem zM_5_ok : ∀ q ∈ zM_5, zMok 5 q := List.forall_mem_cons.mpr ⟨⟨zM_X9_rewind, rfl, List.mem_of_getElem? (i := 622) (by decide +kernel)⟩, List.forall_mem_cons.mpr ⟨⟨zM_X4_clear, rfl, List.mem_of_getElem? (i := 623) (by decide +kernel)⟩, List.forall_mem_cons.mpr ⟨⟨zM_X5_clause, rfl, List.mem_of_getElem? (i := 627) (by decide +kernel)⟩, List.forall_mem_cons.mpr ⟨⟨zM_X9_take, rfl, List.mem_of_getElem? (i := 631) (by decide +kernel)⟩, List.forall_mem_cons.mpr ⟨⟨zM_X9_next, rfl, List.mem_of_getElem? (i := 632) (by decide +kernel)⟩, List.forall_mem_cons.mpr ⟨⟨zM_X9_place, rfl, List.mem_of_getElem? (i := 776) (by decide +kernel)⟩, List.forall_mem_cons.mpr ⟨⟨zM_X5_condition, rfl, List.mem_of_getElem? (i := 633) (by decide +kernel)⟩, List.forall_mem_cons.mpr ⟨⟨zM_X5_conditional, rfl, List.mem_of_getElem? (i := 763) (by decide +kernel)⟩, List.forall_mem_cons.mpr ⟨⟨zM_X5_sum, rfl, List.mem_of_getElem? (i := 641) (by decide +kernel)⟩, List.forall_mem_cons.mpr ⟨⟨zM_X5_isComparing, rfl, List.mem_of_getElem? (i := 752) (by decide +kernel)⟩, List.forall_mem_cons.mpr ⟨⟨zM_X5_comparison, rfl, List.mem_of_getElem? (i := 748) (by decide +kernel)⟩, List.forall_mem_cons.mpr ⟨⟨zM_X5_moreUnits, rfl, List.mem_of_getElem? (i := 755) (by decide +kernel)⟩, List.forall_mem_cons.mpr ⟨⟨zM_X5_moreTruths, rfl, List.mem_of_getElem? (i := 759) (by decide +kernel)⟩, List.forall_mem_cons.mpr ⟨⟨zM_X4_add, rfl, List.mem_of_getElem? (i := 656) (by decide +kernel)⟩, List.forall_mem_cons.mpr ⟨⟨zM_X4_addLeap, rfl, List.mem_of_getElem? (i := 767) (by decide +kernel)⟩, List.forall_mem_cons.mpr ⟨⟨zM_X4_landHere, rfl, List.mem_of_getElem? (i := 772) (by decide +kernel)⟩, List.forall_mem_cons.mpr ⟨⟨zM_X5_unit, rfl, List.mem_of_getElem? (i := 637) (by decide +kernel)⟩, List.forall_mem_cons.mpr ⟨⟨zM_X9_skip, rfl, List.mem_of_getElem? (i := 653) (by decide +kernel)⟩, List.forall_mem_cons.mpr ⟨⟨zM_X5_term, rfl, List.mem_of_getElem? (i := 645) (by decide +kernel)⟩, List.forall_mem_cons.mpr ⟨⟨zM_X5_atom, rfl, List.mem_of_getElem? (i := 649) (by decide +kernel)⟩, List.forall_mem_cons.mpr ⟨⟨zM_X9_isDigit, rfl, List.mem_of_getElem? (i := 654) (by decide +kernel)⟩, List.forall_mem_cons.mpr ⟨⟨zM_X9_number, rfl, List.mem_of_getElem? (i := 655) (by decide +kernel)⟩, fun _ h => absurd h List.not_mem_nil⟩⟩⟩⟩⟩⟩⟩⟩⟩⟩⟩⟩⟩⟩⟩⟩⟩⟩⟩⟩⟩⟩
def zM_6 : List (Nat × Nat) := [(19, 100), (45, 109), (49, 107), (62, 102), (69, 324), (78, 96), (82, 101), (85, 105)]
theorem zM_6_ok : ∀ q ∈ zM_6, zMok 6 q := List.forall_mem_cons.mpr ⟨⟨zM_X7_init, rfl, List.mem_of_getElem? (i := 325) (by decide +kernel)⟩, List.forall_mem_cons.mpr ⟨⟨zM_X8_pick, rfl, List.mem_of_getElem? (i := 1101) (by decide +kernel)⟩, List.forall_mem_cons.mpr ⟨⟨zM_X8_become, rfl, List.mem_of_getElem? (i := 1104) (by decide +kernel)⟩, List.forall_mem_cons.mpr ⟨⟨zM_X7_set, rfl, List.mem_of_getElem? (i := 1141) (by decide +kernel)⟩, List.forall_mem_cons.mpr ⟨⟨zM_J6_bitCount_0f7a4, rfl, List.mem_of_getElem? (i := 1142) (by decide +kernel)⟩, List.forall_mem_cons.mpr ⟨⟨zM_X6_logLength, rfl, List.mem_of_getElem? (i := 1211) (by decide +kernel)⟩, List.forall_mem_cons.mpr ⟨⟨zM_X7_get, rfl, List.mem_of_getElem? (i := 1212) (by decide +kernel)⟩, List.forall_mem_cons.mpr ⟨⟨zM_X7_become, rfl, List.mem_of_getElem? (i := 1221) (by decide +kernel)⟩, fun _ h => absurd h List.not_mem_nil⟩⟩⟩⟩⟩⟩⟩⟩
def zM_7 : List (Nat × Nat) := []
theorem zM_7_ok : ∀ q ∈ zM_7, zMok 7 q := fun _ h => absurd h List.not_mem_nil
def zM_8 : List (Nat × Nat) := [(11, 100), (29, 105), (55, 104), (58, 101), (62, 102), (66, 113), (70, 116)]
theorem zM_8_ok : ∀ q ∈ zM_8, zMok 8 q := List.forall_mem_cons.mpr ⟨⟨zM_X7_init, rfl, List.mem_of_getElem? (i := 254) (by decide +kernel)⟩, List.forall_mem_cons.mpr ⟨⟨zM_X7_become, rfl, List.mem_of_getElem? (i := 849) (by decide +kernel)⟩, List.forall_mem_cons.mpr ⟨⟨zM_X7_clear, rfl, List.mem_of_getElem? (i := 810) (by decide +kernel)⟩, List.forall_mem_cons.mpr ⟨⟨zM_X7_get, rfl, List.mem_of_getElem? (i := 835) (by decide +kernel)⟩, List.forall_mem_cons.mpr ⟨⟨zM_X7_set, rfl, List.mem_of_getElem? (i := 836) (by decide +kernel)⟩, List.forall_mem_cons.mpr ⟨⟨zM_X8_knows, rfl, List.mem_of_getElem? (i := 1030) (by decide +kernel)⟩, List.forall_mem_cons.mpr ⟨⟨zM_X8_breathOf, rfl, List.mem_of_getElem? (i := 1013) (by decide +kernel)⟩, fun _ h => absurd h List.not_mem_nil⟩⟩⟩⟩⟩⟩⟩
def zM_9 : List (Nat × Nat) := [(22, 129), (26, 128), (29, 131)]
theorem zM_9_ok : ∀ q ∈ zM_9, zMok 9 q := List.forall_mem_cons.mpr ⟨⟨zM_X9_next, rfl, List.mem_of_getElem? (i := 597) (by decide +kernel)⟩, List.forall_mem_cons.mpr ⟨⟨zM_X9_here, rfl, List.mem_of_getElem? (i := 566) (by decide +kernel)⟩, List.forall_mem_cons.mpr ⟨⟨zM_X9_isDigit, rfl, List.mem_of_getElem? (i := 570) (by decide +kernel)⟩, fun _ h => absurd h List.not_mem_nil⟩⟩⟩
def zM_10 : List (Nat × Nat) := [(11, 100), (34, 108), (39, 10), (49, 8), (55, 9), (61, 12), (67, 20), (71, 102), (75, 13), (78, 22), (81, 114), (84, 24), (87, 31), (94, 101), (100, 74), (115, 11), (118, 23), (121, 136), (125, 110), (129, 138), (133, 111), (136, 142), (142, 105), (146, 145), (150, 146), (154, 147), (157, 21), (160, 118), (164, 103), (173, 148)]
theorem zM_10_ok : ∀ q ∈ zM_10, zMok 10 q := List.forall_mem_cons.mpr ⟨⟨zM_X7_init, rfl, List.mem_of_getElem? (i := 356) (by decide +kernel)⟩, List.forall_mem_cons.mpr ⟨⟨zM_X8_clear, rfl, List.mem_of_getElem? (i := 806) (by decide +kernel)⟩, List.forall_mem_cons.mpr ⟨⟨zM_X0_windTold, rfl, List.mem_of_getElem? (i := 811) (by decide +kernel)⟩, List.forall_mem_cons.mpr ⟨⟨zM_X0_oakTold, rfl, List.mem_of_getElem? (i := 815) (by decide +kernel)⟩, List.forall_mem_cons.mpr ⟨⟨zM_X0_coinsTold, rfl, List.mem_of_getElem? (i := 819) (by decide +kernel)⟩, List.forall_mem_cons.mpr ⟨⟨zM_X0_persons, rfl, List.mem_of_getElem? (i := 823) (by decide +kernel)⟩, List.forall_mem_cons.mpr ⟨⟨zM_X0_home, rfl, List.mem_of_getElem? (i := 824) (by decide +kernel)⟩, List.forall_mem_cons.mpr ⟨⟨zM_X7_set, rfl, List.mem_of_getElem? (i := 828) (by decide +kernel)⟩, List.forall_mem_cons.mpr ⟨⟨zM_X0_secrets, rfl, List.mem_of_getElem? (i := 829) (by decide +kernel)⟩, List.forall_mem_cons.mpr ⟨⟨zM_X0_owner, rfl, List.mem_of_getElem? (i := 830) (by decide +kernel)⟩, List.forall_mem_cons.mpr ⟨⟨zM_X8_learn, rfl, List.mem_of_getElem? (i := 831) (by decide +kernel)⟩, List.forall_mem_cons.mpr ⟨⟨zM_X0_shed, rfl, List.mem_of_getElem? (i := 952) (by decide +kernel)⟩, List.forall_mem_cons.mpr ⟨⟨zM_X0_away, rfl, List.mem_of_getElem? (i := 953) (by decide +kernel)⟩, List.forall_mem_cons.mpr ⟨⟨zM_X7_get, rfl, List.mem_of_getElem? (i := 965) (by decide +kernel)⟩, List.forall_mem_cons.mpr ⟨⟨zM_X4_worth, rfl, List.mem_of_getElem? (i := 966) (by decide +kernel)⟩, List.forall_mem_cons.mpr ⟨⟨zM_X0_cells, rfl, List.mem_of_getElem? (i := 991) (by decide +kernel)⟩, List.forall_mem_cons.mpr ⟨⟨zM_X0_heavy, rfl, List.mem_of_getElem? (i := 992) (by decide +kernel)⟩, List.forall_mem_cons.mpr ⟨⟨zM_X10_strengthAt, rfl, List.mem_of_getElem? (i := 993) (by decide +kernel)⟩, List.forall_mem_cons.mpr ⟨⟨zM_X8_hangs, rfl, List.mem_of_getElem? (i := 1002) (by decide +kernel)⟩, List.forall_mem_cons.mpr ⟨⟨zM_X10_airAt, rfl, List.mem_of_getElem? (i := 1049) (by decide +kernel)⟩, List.forall_mem_cons.mpr ⟨⟨zM_X8_isCured, rfl, List.mem_of_getElem? (i := 1062) (by decide +kernel)⟩, List.forall_mem_cons.mpr ⟨⟨zM_X10_lacks, rfl, List.mem_of_getElem? (i := 1058) (by decide +kernel)⟩, List.forall_mem_cons.mpr ⟨⟨zM_X7_become, rfl, List.mem_of_getElem? (i := 1113) (by decide +kernel)⟩, List.forall_mem_cons.mpr ⟨⟨zM_X10_smoke, rfl, List.mem_of_getElem? (i := 1114) (by decide +kernel)⟩, List.forall_mem_cons.mpr ⟨⟨zM_X10_cure, rfl, List.mem_of_getElem? (i := 1125) (by decide +kernel)⟩, List.forall_mem_cons.mpr ⟨⟨zM_X10_tell, rfl, List.mem_of_getElem? (i := 1129) (by decide +kernel)⟩, List.forall_mem_cons.mpr ⟨⟨zM_X0_nose, rfl, List.mem_of_getElem? (i := 1118) (by decide +kernel)⟩, List.forall_mem_cons.mpr ⟨⟨zM_X8_breathe, rfl, List.mem_of_getElem? (i := 1119) (by decide +kernel)⟩, List.forall_mem_cons.mpr ⟨⟨zM_X7_add, rfl, List.mem_of_getElem? (i := 1124) (by decide +kernel)⟩, List.forall_mem_cons.mpr ⟨⟨zM_X10_tellAtTable, rfl, List.mem_of_getElem? (i := 1133) (by decide +kernel)⟩, fun _ h => absurd h List.not_mem_nil⟩⟩⟩⟩⟩⟩⟩⟩⟩⟩⟩⟩⟩⟩⟩⟩⟩⟩⟩⟩⟩⟩⟩⟩⟩⟩⟩⟩⟩⟩
def zM_11 : List (Nat × Nat) := [(25, 32), (34, 76), (48, 100), (64, 90), (71, 133), (80, 59), (89, 41), (108, 120), (112, 122), (116, 121), (119, 123), (122, 34), (125, 78), (126, 154), (129, 155), (132, 33), (136, 2), (139, 135), (143, 91), (146, 42), (148, 11), (151, 156), (155, 77), (158, 70), (161, 134), (164, 5), (168, 6), (171, 7), (180, 15), (190, 101), (193, 21), (196, 115), (199, 16), (202, 22), (205, 23), (208, 24), (211, 110), (217, 111), (223, 17), (227, 116), (231, 14), (234, 136), (238, 137), (242, 138), (245, 12), (248, 117), (251, 167), (254, 13), (263, 139), (267, 141), (270, 143), (273, 140), (279, 168), (282, 324), (290, 43), (293, 96), (296, 92), (300, 103), (304, 144), (307, 95), (311, 170), (314, 93), (317, 171), (320, 112), (323, 29), (326, 102), (329, 180), (332, 181), (344, 94), (348, 97), (351, 98), (354, 99), (357, 60), (360, 61), (363, 19), (366, 142), (369, 62), (373, 66), (377, 44), (381, 48), (384, 49), (387, 52), (390, 51), (393, 54), (396, 30), (399, 18), (402, 56), (405, 57)]
theorem zM_11_ok : ∀ q ∈ zM_11, zMok 11 q := List.forall_mem_cons.mpr ⟨⟨zM_X1_init, rfl, List.mem_of_getElem? (i := 195) (by decide +kernel)⟩, List.forall_mem_cons.mpr ⟨⟨zM_X5_init, rfl, List.mem_of_getElem? (i := 213) (by decide +kernel)⟩, List.forall_mem_cons.mpr ⟨⟨zM_X7_init, rfl, List.mem_of_getElem? (i := 246) (by decide +kernel)⟩, List.forall_mem_cons.mpr ⟨⟨zM_X6_init, rfl, List.mem_of_getElem? (i := 318) (by decide +kernel)⟩, List.forall_mem_cons.mpr ⟨⟨zM_X10_init, rfl, List.mem_of_getElem? (i := 351) (by decide +kernel)⟩, List.forall_mem_cons.mpr ⟨⟨zM_X3_init, rfl, List.mem_of_getElem? (i := 375) (by decide +kernel)⟩, List.forall_mem_cons.mpr ⟨⟨zM_X2_init, rfl, List.mem_of_getElem? (i := 401) (by decide +kernel)⟩, List.forall_mem_cons.mpr ⟨⟨zM_X9_bytesIn, rfl, List.mem_of_getElem? (i := 487) (by decide +kernel)⟩, List.forall_mem_cons.mpr ⟨⟨zM_X9_length, rfl, List.mem_of_getElem? (i := 490) (by decide +kernel)⟩, List.forall_mem_cons.mpr ⟨⟨zM_X9_addBytesOf, rfl, List.mem_of_getElem? (i := 494) (by decide +kernel)⟩, List.forall_mem_cons.mpr ⟨⟨zM_X9_cutTo, rfl, List.mem_of_getElem? (i := 502) (by decide +kernel)⟩, List.forall_mem_cons.mpr ⟨⟨zM_X1_read, rfl, List.mem_of_getElem? (i := 510) (by decide +kernel)⟩, List.forall_mem_cons.mpr ⟨⟨zM_X5_read, rfl, List.mem_of_getElem? (i := 618) (by decide +kernel)⟩, List.forall_mem_cons.mpr ⟨⟨zM_X11_takeCoast, rfl, List.mem_of_getElem? (i := 782) (by decide +kernel)⟩, List.forall_mem_cons.mpr ⟨⟨zM_X11_takeLaw, rfl, List.mem_of_getElem? (i := 858) (by decide +kernel)⟩, List.forall_mem_cons.mpr ⟨⟨zM_X1_draft, rfl, List.mem_of_getElem? (i := 786) (by decide +kernel)⟩, List.forall_mem_cons.mpr ⟨⟨zM_X0_become, rfl, List.mem_of_getElem? (i := 790) (by decide +kernel)⟩, List.forall_mem_cons.mpr ⟨⟨zM_X10_begin, rfl, List.mem_of_getElem? (i := 802) (by decide +kernel)⟩, List.forall_mem_cons.mpr ⟨⟨zM_X6_forget, rfl, List.mem_of_getElem? (i := 837) (by decide +kernel)⟩, List.forall_mem_cons.mpr ⟨⟨zM_X2_forget, rfl, List.mem_of_getElem? (i := 841) (by decide +kernel)⟩, List.forall_mem_cons.mpr ⟨⟨zM_X0_cells, rfl, List.mem_of_getElem? (i := 850) (by decide +kernel)⟩, List.forall_mem_cons.mpr ⟨⟨zM_X11_lawAt, rfl, List.mem_of_getElem? (i := 862) (by decide +kernel)⟩, List.forall_mem_cons.mpr ⟨⟨zM_X5_draft, rfl, List.mem_of_getElem? (i := 866) (by decide +kernel)⟩, List.forall_mem_cons.mpr ⟨⟨zM_X4_become, rfl, List.mem_of_getElem? (i := 870) (by decide +kernel)⟩, List.forall_mem_cons.mpr ⟨⟨zM_X10_obey, rfl, List.mem_of_getElem? (i := 879) (by decide +kernel)⟩, List.forall_mem_cons.mpr ⟨⟨zM_X0_isTold, rfl, List.mem_of_getElem? (i := 887) (by decide +kernel)⟩, List.forall_mem_cons.mpr ⟨⟨zM_X0_wide, rfl, List.mem_of_getElem? (i := 891) (by decide +kernel)⟩, List.forall_mem_cons.mpr ⟨⟨zM_X0_rows, rfl, List.mem_of_getElem? (i := 895) (by decide +kernel)⟩, List.forall_mem_cons.mpr ⟨⟨zM_X0_hasPerson, rfl, List.mem_of_getElem? (i := 1007) (by decide +kernel)⟩, List.forall_mem_cons.mpr ⟨⟨zM_X7_get, rfl, List.mem_of_getElem? (i := 917) (by decide +kernel)⟩, List.forall_mem_cons.mpr ⟨⟨zM_X0_nose, rfl, List.mem_of_getElem? (i := 1040) (by decide +kernel)⟩, List.forall_mem_cons.mpr ⟨⟨zM_X8_knownBy, rfl, List.mem_of_getElem? (i := 1026) (by decide +kernel)⟩, List.forall_mem_cons.mpr ⟨⟨zM_X0_hasSecret, rfl, List.mem_of_getElem? (i := 900) (by decide +kernel)⟩, List.forall_mem_cons.mpr ⟨⟨zM_X0_owner, rfl, List.mem_of_getElem? (i := 904) (by decide +kernel)⟩, List.forall_mem_cons.mpr ⟨⟨zM_X0_heavy, rfl, List.mem_of_getElem? (i := 905) (by decide +kernel)⟩, List.forall_mem_cons.mpr ⟨⟨zM_X0_shed, rfl, List.mem_of_getElem? (i := 909) (by decide +kernel)⟩, List.forall_mem_cons.mpr ⟨⟨zM_X8_hangs, rfl, List.mem_of_getElem? (i := 913) (by decide +kernel)⟩, List.forall_mem_cons.mpr ⟨⟨zM_X8_isCured, rfl, List.mem_of_getElem? (i := 918) (by decide +kernel)⟩, List.forall_mem_cons.mpr ⟨⟨zM_X0_hasBoth, rfl, List.mem_of_getElem? (i := 926) (by decide +kernel)⟩, List.forall_mem_cons.mpr ⟨⟨zM_X8_breathOf, rfl, List.mem_of_getElem? (i := 935) (by decide +kernel)⟩, List.forall_mem_cons.mpr ⟨⟨zM_X0_hasCell, rfl, List.mem_of_getElem? (i := 943) (by decide +kernel)⟩, List.forall_mem_cons.mpr ⟨⟨zM_X10_strengthAt, rfl, List.mem_of_getElem? (i := 948) (by decide +kernel)⟩, List.forall_mem_cons.mpr ⟨⟨zM_X10_smellingCells, rfl, List.mem_of_getElem? (i := 987) (by decide +kernel)⟩, List.forall_mem_cons.mpr ⟨⟨zM_X10_airAt, rfl, List.mem_of_getElem? (i := 998) (by decide +kernel)⟩, List.forall_mem_cons.mpr ⟨⟨zM_X0_persons, rfl, List.mem_of_getElem? (i := 1008) (by decide +kernel)⟩, List.forall_mem_cons.mpr ⟨⟨zM_X8_breathsOf, rfl, List.mem_of_getElem? (i := 1009) (by decide +kernel)⟩, List.forall_mem_cons.mpr ⟨⟨zM_X11_firstOfMost, rfl, List.mem_of_getElem? (i := 1018) (by decide +kernel)⟩, List.forall_mem_cons.mpr ⟨⟨zM_X0_secrets, rfl, List.mem_of_getElem? (i := 1044) (by decide +kernel)⟩, List.forall_mem_cons.mpr ⟨⟨zM_X10_foulCells, rfl, List.mem_of_getElem? (i := 1045) (by decide +kernel)⟩, List.forall_mem_cons.mpr ⟨⟨zM_X10_tables, rfl, List.mem_of_getElem? (i := 1050) (by decide +kernel)⟩, List.forall_mem_cons.mpr ⟨⟨zM_X10_lackedByAll, rfl, List.mem_of_getElem? (i := 1054) (by decide +kernel)⟩, List.forall_mem_cons.mpr ⟨⟨zM_X10_safePersons, rfl, List.mem_of_getElem? (i := 1063) (by decide +kernel)⟩, List.forall_mem_cons.mpr ⟨⟨zM_X11_measure, rfl, List.mem_of_getElem? (i := 1022) (by decide +kernel)⟩, List.forall_mem_cons.mpr ⟨⟨zM_J6_bitCount_0f7a4, rfl, List.mem_of_getElem? (i := 1034) (by decide +kernel)⟩, List.forall_mem_cons.mpr ⟨⟨zM_X2_notes, rfl, List.mem_of_getElem? (i := 1071) (by decide +kernel)⟩, List.forall_mem_cons.mpr ⟨⟨zM_X6_logLength, rfl, List.mem_of_getElem? (i := 1075) (by decide +kernel)⟩, List.forall_mem_cons.mpr ⟨⟨zM_X6_acts, rfl, List.mem_of_getElem? (i := 1080) (by decide +kernel)⟩, List.forall_mem_cons.mpr ⟨⟨zM_X7_add, rfl, List.mem_of_getElem? (i := 1093) (by decide +kernel)⟩, List.forall_mem_cons.mpr ⟨⟨zM_X10_pass, rfl, List.mem_of_getElem? (i := 1109) (by decide +kernel)⟩, List.forall_mem_cons.mpr ⟨⟨zM_X6_write, rfl, List.mem_of_getElem? (i := 1137) (by decide +kernel)⟩, List.forall_mem_cons.mpr ⟨⟨zM_X11_refuse, rfl, List.mem_of_getElem? (i := 1089) (by decide +kernel)⟩, List.forall_mem_cons.mpr ⟨⟨zM_X6_remember, rfl, List.mem_of_getElem? (i := 1097) (by decide +kernel)⟩, List.forall_mem_cons.mpr ⟨⟨zM_X11_passNight, rfl, List.mem_of_getElem? (i := 1105) (by decide +kernel)⟩, List.forall_mem_cons.mpr ⟨⟨zM_X8_turnHanging, rfl, List.mem_of_getElem? (i := 1147) (by decide +kernel)⟩, List.forall_mem_cons.mpr ⟨⟨zM_X0_beside, rfl, List.mem_of_getElem? (i := 1159) (by decide +kernel)⟩, List.forall_mem_cons.mpr ⟨⟨zM_X7_set, rfl, List.mem_of_getElem? (i := 1163) (by decide +kernel)⟩, List.forall_mem_cons.mpr ⟨⟨zM_X11_drawWhatIsAhead, rfl, List.mem_of_getElem? (i := 1180) (by decide +kernel)⟩, List.forall_mem_cons.mpr ⟨⟨zM_X11_draw, rfl, List.mem_of_getElem? (i := 1184) (by decide +kernel)⟩, List.forall_mem_cons.mpr ⟨⟨zM_X6_recall, rfl, List.mem_of_getElem? (i := 1199) (by decide +kernel)⟩, List.forall_mem_cons.mpr ⟨⟨zM_X6_read, rfl, List.mem_of_getElem? (i := 1207) (by decide +kernel)⟩, List.forall_mem_cons.mpr ⟨⟨zM_X6_picture, rfl, List.mem_of_getElem? (i := 1217) (by decide +kernel)⟩, List.forall_mem_cons.mpr ⟨⟨zM_X6_restore, rfl, List.mem_of_getElem? (i := 1226) (by decide +kernel)⟩, List.forall_mem_cons.mpr ⟨⟨zM_X3_nightsTillKnown, rfl, List.mem_of_getElem? (i := 1234) (by decide +kernel)⟩, List.forall_mem_cons.mpr ⟨⟨zM_X3_nightsTillCured, rfl, List.mem_of_getElem? (i := 1245) (by decide +kernel)⟩, List.forall_mem_cons.mpr ⟨⟨zM_X0_hasPersons, rfl, List.mem_of_getElem? (i := 1254) (by decide +kernel)⟩, List.forall_mem_cons.mpr ⟨⟨zM_X10_lacks, rfl, List.mem_of_getElem? (i := 1259) (by decide +kernel)⟩, List.forall_mem_cons.mpr ⟨⟨zM_X3_rowsOfWinds, rfl, List.mem_of_getElem? (i := 1260) (by decide +kernel)⟩, List.forall_mem_cons.mpr ⟨⟨zM_X3_partsThatKnow, rfl, List.mem_of_getElem? (i := 1283) (by decide +kernel)⟩, List.forall_mem_cons.mpr ⟨⟨zM_X2_note, rfl, List.mem_of_getElem? (i := 1298) (by decide +kernel)⟩, List.forall_mem_cons.mpr ⟨⟨zM_X2_fittingHeavy, rfl, List.mem_of_getElem? (i := 1307) (by decide +kernel)⟩, List.forall_mem_cons.mpr ⟨⟨zM_X2_cellToAsk, rfl, List.mem_of_getElem? (i := 1330) (by decide +kernel)⟩, List.forall_mem_cons.mpr ⟨⟨zM_X2_worthiest, rfl, List.mem_of_getElem? (i := 1346) (by decide +kernel)⟩, List.forall_mem_cons.mpr ⟨⟨zM_X2_heavyTogether, rfl, List.mem_of_getElem? (i := 1361) (by decide +kernel)⟩, List.forall_mem_cons.mpr ⟨⟨zM_X2_nearestPure, rfl, List.mem_of_getElem? (i := 1366) (by decide +kernel)⟩, List.forall_mem_cons.mpr ⟨⟨zM_X0_steps, rfl, List.mem_of_getElem? (i := 1376) (by decide +kernel)⟩, List.forall_mem_cons.mpr ⟨⟨zM_X0_hasTwo, rfl, List.mem_of_getElem? (i := 1381) (by decide +kernel)⟩, List.forall_mem_cons.mpr ⟨⟨zM_X2_gain, rfl, List.mem_of_getElem? (i := 1385) (by decide +kernel)⟩, List.forall_mem_cons.mpr ⟨⟨zM_X2_rest, rfl, List.mem_of_getElem? (i := 1398) (by decide +kernel)⟩, fun _ h => absurd h List.not_mem_nil⟩⟩⟩⟩⟩⟩⟩⟩⟩⟩⟩⟩⟩⟩⟩⟩⟩⟩⟩⟩⟩⟩⟩⟩⟩⟩⟩⟩⟩⟩⟩⟩⟩⟩⟩⟩⟩⟩⟩⟩⟩⟩⟩⟩⟩⟩⟩⟩⟩⟩⟩⟩⟩⟩⟩⟩⟩⟩⟩⟩⟩⟩⟩⟩⟩⟩⟩⟩⟩⟩⟩⟩⟩⟩⟩⟩⟩⟩⟩⟩⟩⟩⟩⟩⟩⟩⟩⟩
def zM_12 : List (Nat × Nat) := [(99, 202), (109, 205), (122, 207), (125, 206), (128, 208), (132, 213), (135, 209), (139, 210), (143, 211), (146, 216), (149, 212), (153, 214), (156, 215), (159, 217), (162, 219), (165, 222), (168, 218), (171, 220), (174, 221), (177, 224), (180, 223), (183, 225), (199, 227), (203, 228), (207, 229), (211, 198), (215, 235), (219, 232), (222, 199), (226, 233), (229, 234), (232, 231), (241, 236), (245, 237), (249, 238), (252, 226), (264, 245), (277, 240), (283, 246), (286, 250), (291, 252), (294, 247), (297, 255), (300, 256), (303, 230), (308, 257), (312, 248), (315, 258), (318, 251), (322, 253), (325, 260), (328, 261), (331, 262), (334, 263), (337, 324), (342, 242), (345, 243), (348, 249), (351, 254), (354, 272), (357, 271), (360, 270), (363, 264), (374, 280), (377, 281), (380, 244), (383, 259), (386, 289), (389, 290), (398, 294), (402, 293), (405, 297), (408, 298), (411, 299), (423, 301), (426, 304), (429, 306), (433, 305), (437, 308), (443, 310), (447, 312), (450, 315), (454, 316), (457, 317), (460, 318), (463, 319), (466, 314)]
theorem zM_12_ok : ∀ q ∈ zM_12, zMok 12 q := List.forall_mem_cons.mpr ⟨⟨zM_X12_byteOf, rfl, List.mem_of_getElem? (i := 1636) (by decide +kernel)⟩, List.forall_mem_cons.mpr ⟨⟨zM_X12_here, rfl, List.mem_of_getElem? (i := 1658) (by decide +kernel)⟩, List.forall_mem_cons.mpr ⟨⟨zM_X12_bad, rfl, List.mem_of_getElem? (i := 1685) (by decide +kernel)⟩, List.forall_mem_cons.mpr ⟨⟨zM_X12_look, rfl, List.mem_of_getElem? (i := 1654) (by decide +kernel)⟩, List.forall_mem_cons.mpr ⟨⟨zM_X12_isDigit, rfl, List.mem_of_getElem? (i := 1682) (by decide +kernel)⟩, List.forall_mem_cons.mpr ⟨⟨zM_X12_plainNumber, rfl, List.mem_of_getElem? (i := 1740) (by decide +kernel)⟩, List.forall_mem_cons.mpr ⟨⟨zM_X12_put, rfl, List.mem_of_getElem? (i := 1720) (by decide +kernel)⟩, List.forall_mem_cons.mpr ⟨⟨zM_X12_letterOf, rfl, List.mem_of_getElem? (i := 1744) (by decide +kernel)⟩, List.forall_mem_cons.mpr ⟨⟨zM_X12_opens, rfl, List.mem_of_getElem? (i := 1716) (by decide +kernel)⟩, List.forall_mem_cons.mpr ⟨⟨zM_X12_sum, rfl, List.mem_of_getElem? (i := 1728) (by decide +kernel)⟩, List.forall_mem_cons.mpr ⟨⟨zM_X12_closes, rfl, List.mem_of_getElem? (i := 1724) (by decide +kernel)⟩, List.forall_mem_cons.mpr ⟨⟨zM_X12_atom, rfl, List.mem_of_getElem? (i := 1736) (by decide +kernel)⟩, List.forall_mem_cons.mpr ⟨⟨zM_X12_term, rfl, List.mem_of_getElem? (i := 1732) (by decide +kernel)⟩, List.forall_mem_cons.mpr ⟨⟨zM_X12_isSign, rfl, List.mem_of_getElem? (i := 1751) (by decide +kernel)⟩, List.forall_mem_cons.mpr ⟨⟨zM_X12_unit, rfl, List.mem_of_getElem? (i := 1712) (by decide +kernel)⟩, List.forall_mem_cons.mpr ⟨⟨zM_X12_condition, rfl, List.mem_of_getElem? (i := 1708) (by decide +kernel)⟩, List.forall_mem_cons.mpr ⟨⟨zM_X12_compare, rfl, List.mem_of_getElem? (i := 1747) (by decide +kernel)⟩, List.forall_mem_cons.mpr ⟨⟨zM_X12_goOnAnd, rfl, List.mem_of_getElem? (i := 1754) (by decide +kernel)⟩, List.forall_mem_cons.mpr ⟨⟨zM_X12_goOnOr, rfl, List.mem_of_getElem? (i := 1758) (by decide +kernel)⟩, List.forall_mem_cons.mpr ⟨⟨zM_X12_open, rfl, List.mem_of_getElem? (i := 1700) (by decide +kernel)⟩, List.forall_mem_cons.mpr ⟨⟨zM_X12_clause, rfl, List.mem_of_getElem? (i := 1704) (by decide +kernel)⟩, List.forall_mem_cons.mpr ⟨⟨zM_X12_atEnd, rfl, List.mem_of_getElem? (i := 1762) (by decide +kernel)⟩, List.forall_mem_cons.mpr ⟨⟨zM_X12_bounded, rfl, List.mem_of_getElem? (i := 1893) (by decide +kernel)⟩, List.forall_mem_cons.mpr ⟨⟨zM_X12_worked, rfl, List.mem_of_getElem? (i := 1890) (by decide +kernel)⟩, List.forall_mem_cons.mpr ⟨⟨zM_X12_workOut, rfl, List.mem_of_getElem? (i := 1886) (by decide +kernel)⟩, List.forall_mem_cons.mpr ⟨⟨zM_X12_in, rfl, List.mem_of_getElem? (i := 1689) (by decide +kernel)⟩, List.forall_mem_cons.mpr ⟨⟨zM_X12_usual, rfl, List.mem_of_getElem? (i := 1651) (by decide +kernel)⟩, List.forall_mem_cons.mpr ⟨⟨zM_X12_itemOf, rfl, List.mem_of_getElem? (i := 1666) (by decide +kernel)⟩, List.forall_mem_cons.mpr ⟨⟨zM_X12_has, rfl, List.mem_of_getElem? (i := 1669) (by decide +kernel)⟩, List.forall_mem_cons.mpr ⟨⟨zM_X12_lowest, rfl, List.mem_of_getElem? (i := 1672) (by decide +kernel)⟩, List.forall_mem_cons.mpr ⟨⟨zM_X12_highest, rfl, List.mem_of_getElem? (i := 1675) (by decide +kernel)⟩, List.forall_mem_cons.mpr ⟨⟨zM_X12_number, rfl, List.mem_of_getElem? (i := 1678) (by decide +kernel)⟩, List.forall_mem_cons.mpr ⟨⟨zM_X12_items, rfl, List.mem_of_getElem? (i := 1662) (by decide +kernel)⟩, List.forall_mem_cons.mpr ⟨⟨zM_X12_isWhole, rfl, List.mem_of_getElem? (i := 1692) (by decide +kernel)⟩, List.forall_mem_cons.mpr ⟨⟨zM_X12_readCoast, rfl, List.mem_of_getElem? (i := 1647) (by decide +kernel)⟩, List.forall_mem_cons.mpr ⟨⟨zM_X12_readLaw, rfl, List.mem_of_getElem? (i := 1696) (by decide +kernel)⟩, List.forall_mem_cons.mpr ⟨⟨zM_X12_ofPerson, rfl, List.mem_of_getElem? (i := 1774) (by decide +kernel)⟩, List.forall_mem_cons.mpr ⟨⟨zM_X12_takeCoast, rfl, List.mem_of_getElem? (i := 1770) (by decide +kernel)⟩, List.forall_mem_cons.mpr ⟨⟨zM_X12_of, rfl, List.mem_of_getElem? (i := 1798) (by decide +kernel)⟩, List.forall_mem_cons.mpr ⟨⟨zM_X12_breathOf, rfl, List.mem_of_getElem? (i := 1802) (by decide +kernel)⟩, List.forall_mem_cons.mpr ⟨⟨zM_X12_knows, rfl, List.mem_of_getElem? (i := 1794) (by decide +kernel)⟩, List.forall_mem_cons.mpr ⟨⟨zM_X12_shedOf, rfl, List.mem_of_getElem? (i := 1814) (by decide +kernel)⟩, List.forall_mem_cons.mpr ⟨⟨zM_X12_beside, rfl, List.mem_of_getElem? (i := 1878) (by decide +kernel)⟩, List.forall_mem_cons.mpr ⟨⟨zM_X12_offShed, rfl, List.mem_of_getElem? (i := 1874) (by decide +kernel)⟩, List.forall_mem_cons.mpr ⟨⟨zM_X12_worthOf, rfl, List.mem_of_getElem? (i := 1882) (by decide +kernel)⟩, List.forall_mem_cons.mpr ⟨⟨zM_X12_strengthBy, rfl, List.mem_of_getElem? (i := 1870) (by decide +kernel)⟩, List.forall_mem_cons.mpr ⟨⟨zM_X12_hangs, rfl, List.mem_of_getElem? (i := 1818) (by decide +kernel)⟩, List.forall_mem_cons.mpr ⟨⟨zM_X12_strengthNow, rfl, List.mem_of_getElem? (i := 1866) (by decide +kernel)⟩, List.forall_mem_cons.mpr ⟨⟨zM_X12_breathe, rfl, List.mem_of_getElem? (i := 1906) (by decide +kernel)⟩, List.forall_mem_cons.mpr ⟨⟨zM_X12_knownTo, rfl, List.mem_of_getElem? (i := 1790) (by decide +kernel)⟩, List.forall_mem_cons.mpr ⟨⟨zM_X12_smokeAll, rfl, List.mem_of_getElem? (i := 1862) (by decide +kernel)⟩, List.forall_mem_cons.mpr ⟨⟨zM_X12_cureAll, rfl, List.mem_of_getElem? (i := 1910) (by decide +kernel)⟩, List.forall_mem_cons.mpr ⟨⟨zM_X12_talkAll, rfl, List.mem_of_getElem? (i := 1914) (by decide +kernel)⟩, List.forall_mem_cons.mpr ⟨⟨zM_X12_live, rfl, List.mem_of_getElem? (i := 1858) (by decide +kernel)⟩, List.forall_mem_cons.mpr ⟨⟨zM_J6_bitCount_0f7a4, rfl, List.mem_of_getElem? (i := 1918) (by decide +kernel)⟩, List.forall_mem_cons.mpr ⟨⟨zM_X12_isPerson, rfl, List.mem_of_getElem? (i := 1786) (by decide +kernel)⟩, List.forall_mem_cons.mpr ⟨⟨zM_X12_isSecret, rfl, List.mem_of_getElem? (i := 1810) (by decide +kernel)⟩, List.forall_mem_cons.mpr ⟨⟨zM_X12_isRaw, rfl, List.mem_of_getElem? (i := 1822) (by decide +kernel)⟩, List.forall_mem_cons.mpr ⟨⟨zM_X12_knownOf, rfl, List.mem_of_getElem? (i := 1826) (by decide +kernel)⟩, List.forall_mem_cons.mpr ⟨⟨zM_X12_areNights, rfl, List.mem_of_getElem? (i := 1842) (by decide +kernel)⟩, List.forall_mem_cons.mpr ⟨⟨zM_X12_isRefused, rfl, List.mem_of_getElem? (i := 1846) (by decide +kernel)⟩, List.forall_mem_cons.mpr ⟨⟨zM_X12_keep, rfl, List.mem_of_getElem? (i := 1850) (by decide +kernel)⟩, List.forall_mem_cons.mpr ⟨⟨zM_X12_passNight, rfl, List.mem_of_getElem? (i := 1854) (by decide +kernel)⟩, List.forall_mem_cons.mpr ⟨⟨zM_X12_draw, rfl, List.mem_of_getElem? (i := 1951) (by decide +kernel)⟩, List.forall_mem_cons.mpr ⟨⟨zM_X12_drawNight, rfl, List.mem_of_getElem? (i := 1947) (by decide +kernel)⟩, List.forall_mem_cons.mpr ⟨⟨zM_X12_isCell, rfl, List.mem_of_getElem? (i := 1973) (by decide +kernel)⟩, List.forall_mem_cons.mpr ⟨⟨zM_X12_airOf, rfl, List.mem_of_getElem? (i := 1985) (by decide +kernel)⟩, List.forall_mem_cons.mpr ⟨⟨zM_X12_putAside, rfl, List.mem_of_getElem? (i := 1993) (by decide +kernel)⟩, List.forall_mem_cons.mpr ⟨⟨zM_X12_takeBack, rfl, List.mem_of_getElem? (i := 1997) (by decide +kernel)⟩, List.forall_mem_cons.mpr ⟨⟨zM_X12_tryWinds, rfl, List.mem_of_getElem? (i := 2013) (by decide +kernel)⟩, List.forall_mem_cons.mpr ⟨⟨zM_X12_lacksOf, rfl, List.mem_of_getElem? (i := 2009) (by decide +kernel)⟩, List.forall_mem_cons.mpr ⟨⟨zM_X12_smeltTold, rfl, List.mem_of_getElem? (i := 2029) (by decide +kernel)⟩, List.forall_mem_cons.mpr ⟨⟨zM_X12_isHeavy, rfl, List.mem_of_getElem? (i := 2025) (by decide +kernel)⟩, List.forall_mem_cons.mpr ⟨⟨zM_X12_heavies, rfl, List.mem_of_getElem? (i := 2037) (by decide +kernel)⟩, List.forall_mem_cons.mpr ⟨⟨zM_X12_layWorthwhile, rfl, List.mem_of_getElem? (i := 2043) (by decide +kernel)⟩, List.forall_mem_cons.mpr ⟨⟨zM_X12_cellBy, rfl, List.mem_of_getElem? (i := 2064) (by decide +kernel)⟩, List.forall_mem_cons.mpr ⟨⟨zM_X12_areTwo, rfl, List.mem_of_getElem? (i := 2055) (by decide +kernel)⟩, List.forall_mem_cons.mpr ⟨⟨zM_X12_gameOf, rfl, List.mem_of_getElem? (i := 2060) (by decide +kernel)⟩, List.forall_mem_cons.mpr ⟨⟨zM_X12_isRest, rfl, List.mem_of_getElem? (i := 2072) (by decide +kernel)⟩, List.forall_mem_cons.mpr ⟨⟨zM_X12_oddsFrom, rfl, List.mem_of_getElem? (i := 2081) (by decide +kernel)⟩, List.forall_mem_cons.mpr ⟨⟨zM_X12_breathAll, rfl, List.mem_of_getElem? (i := 2090) (by decide +kernel)⟩, List.forall_mem_cons.mpr ⟨⟨zM_X12_topSecret, rfl, List.mem_of_getElem? (i := 2098) (by decide +kernel)⟩, List.forall_mem_cons.mpr ⟨⟨zM_X12_foul, rfl, List.mem_of_getElem? (i := 2102) (by decide +kernel)⟩, List.forall_mem_cons.mpr ⟨⟨zM_X12_tables, rfl, List.mem_of_getElem? (i := 2106) (by decide +kernel)⟩, List.forall_mem_cons.mpr ⟨⟨zM_X12_lacksAll, rfl, List.mem_of_getElem? (i := 2110) (by decide +kernel)⟩, List.forall_mem_cons.mpr ⟨⟨zM_X12_safeOnes, rfl, List.mem_of_getElem? (i := 2114) (by decide +kernel)⟩, List.forall_mem_cons.mpr ⟨⟨zM_X12_topPerson, rfl, List.mem_of_getElem? (i := 2118) (by decide +kernel)⟩, fun _ h => absurd h List.not_mem_nil⟩⟩⟩⟩⟩⟩⟩⟩⟩⟩⟩⟩⟩⟩⟩⟩⟩⟩⟩⟩⟩⟩⟩⟩⟩⟩⟩⟩⟩⟩⟩⟩⟩⟩⟩⟩⟩⟩⟩⟩⟩⟩⟩⟩⟩⟩⟩⟩⟩⟩⟩⟩⟩⟩⟩⟩⟩⟩⟩⟩⟩⟩⟩⟩⟩⟩⟩⟩⟩⟩⟩⟩⟩⟩⟩⟩⟩⟩⟩⟩⟩⟩⟩⟩⟩⟩⟩
def zM_13 : List (Nat × Nat) := [(7, 159), (15, 149), (18, 200), (19, 150), (23, 203), (24, 151), (28, 204), (29, 152), (33, 239), (34, 153), (37, 241), (38, 158), (41, 265), (47, 266), (48, 201), (52, 160), (55, 267), (56, 161), (59, 268), (60, 157), (63, 269), (64, 172), (67, 273), (68, 173), (71, 274), (72, 174), (75, 275), (76, 175), (79, 276), (80, 176), (83, 277), (84, 177), (87, 278), (88, 178), (91, 279), (94, 179), (98, 282), (99, 182), (102, 283), (103, 183), (106, 284), (107, 184), (110, 285), (111, 162), (114, 286), (115, 163), (118, 287), (119, 164), (122, 288), (123, 187), (126, 291), (127, 188), (130, 292), (131, 189), (135, 295), (136, 191), (140, 296), (141, 192), (144, 299), (145, 193), (148, 300), (149, 194), (152, 302), (153, 195), (156, 303), (157, 196), (160, 307), (161, 197), (164, 309), (165, 190), (169, 311), (170, 165), (173, 313), (174, 166), (177, 320), (178, 185), (181, 321), (182, 186), (185, 322), (186, 169), (189, 323)]
theorem zM_13_ok : ∀ q ∈ zM_13, zMok 13 q := List.forall_mem_cons.mpr ⟨⟨zM_X11_person, rfl, List.mem_of_getElem? (i := 1411) (by decide +kernel)⟩, List.forall_mem_cons.mpr ⟨⟨zM_X11_init, rfl, List.mem_of_getElem? (i := 140) (by decide +kernel)⟩, List.forall_mem_cons.mpr ⟨⟨zM_X12_init, rfl, List.mem_of_getElem? (i := 1478) (by decide +kernel)⟩, List.forall_mem_cons.mpr ⟨⟨zM_X11_feed, rfl, List.mem_of_getElem? (i := 483) (by decide +kernel)⟩, List.forall_mem_cons.mpr ⟨⟨zM_X12_feed, rfl, List.mem_of_getElem? (i := 1632) (by decide +kernel)⟩, List.forall_mem_cons.mpr ⟨⟨zM_X11_end, rfl, List.mem_of_getElem? (i := 498) (by decide +kernel)⟩, List.forall_mem_cons.mpr ⟨⟨zM_X12_end, rfl, List.mem_of_getElem? (i := 1639) (by decide +kernel)⟩, List.forall_mem_cons.mpr ⟨⟨zM_X11_fault, rfl, List.mem_of_getElem? (i := 506) (by decide +kernel)⟩, List.forall_mem_cons.mpr ⟨⟨zM_X12_fault, rfl, List.mem_of_getElem? (i := 1643) (by decide +kernel)⟩, List.forall_mem_cons.mpr ⟨⟨zM_X11_text, rfl, List.mem_of_getElem? (i := 778) (by decide +kernel)⟩, List.forall_mem_cons.mpr ⟨⟨zM_X12_text, rfl, List.mem_of_getElem? (i := 1766) (by decide +kernel)⟩, List.forall_mem_cons.mpr ⟨⟨zM_X11_rule, rfl, List.mem_of_getElem? (i := 883) (by decide +kernel)⟩, List.forall_mem_cons.mpr ⟨⟨zM_X12_rule, rfl, List.mem_of_getElem? (i := 1778) (by decide +kernel)⟩, List.forall_mem_cons.mpr ⟨⟨zM_X12_person, rfl, List.mem_of_getElem? (i := 1782) (by decide +kernel)⟩, List.forall_mem_cons.mpr ⟨⟨zM_X12_thrown, rfl, List.mem_of_getElem? (i := 1628) (by decide +kernel)⟩, List.forall_mem_cons.mpr ⟨⟨zM_X11_secret, rfl, List.mem_of_getElem? (i := 896) (by decide +kernel)⟩, List.forall_mem_cons.mpr ⟨⟨zM_X12_secret, rfl, List.mem_of_getElem? (i := 1806) (by decide +kernel)⟩, List.forall_mem_cons.mpr ⟨⟨zM_X11_breath, rfl, List.mem_of_getElem? (i := 922) (by decide +kernel)⟩, List.forall_mem_cons.mpr ⟨⟨zM_X12_breath, rfl, List.mem_of_getElem? (i := 1830) (by decide +kernel)⟩, List.forall_mem_cons.mpr ⟨⟨zM_X11_law, rfl, List.mem_of_getElem? (i := 875) (by decide +kernel)⟩, List.forall_mem_cons.mpr ⟨⟨zM_X12_law, rfl, List.mem_of_getElem? (i := 1834) (by decide +kernel)⟩, List.forall_mem_cons.mpr ⟨⟨zM_X11_nights, rfl, List.mem_of_getElem? (i := 1085) (by decide +kernel)⟩, List.forall_mem_cons.mpr ⟨⟨zM_X12_nights, rfl, List.mem_of_getElem? (i := 1838) (by decide +kernel)⟩, List.forall_mem_cons.mpr ⟨⟨zM_X11_hang, rfl, List.mem_of_getElem? (i := 1143) (by decide +kernel)⟩, List.forall_mem_cons.mpr ⟨⟨zM_X12_hang, rfl, List.mem_of_getElem? (i := 1919) (by decide +kernel)⟩, List.forall_mem_cons.mpr ⟨⟨zM_X11_veers, rfl, List.mem_of_getElem? (i := 1151) (by decide +kernel)⟩, List.forall_mem_cons.mpr ⟨⟨zM_X12_veers, rfl, List.mem_of_getElem? (i := 1923) (by decide +kernel)⟩, List.forall_mem_cons.mpr ⟨⟨zM_X11_moves, rfl, List.mem_of_getElem? (i := 1155) (by decide +kernel)⟩, List.forall_mem_cons.mpr ⟨⟨zM_X12_moves, rfl, List.mem_of_getElem? (i := 1927) (by decide +kernel)⟩, List.forall_mem_cons.mpr ⟨⟨zM_X11_oak, rfl, List.mem_of_getElem? (i := 1164) (by decide +kernel)⟩, List.forall_mem_cons.mpr ⟨⟨zM_X12_oak, rfl, List.mem_of_getElem? (i := 1931) (by decide +kernel)⟩, List.forall_mem_cons.mpr ⟨⟨zM_X11_give, rfl, List.mem_of_getElem? (i := 1168) (by decide +kernel)⟩, List.forall_mem_cons.mpr ⟨⟨zM_X12_give, rfl, List.mem_of_getElem? (i := 1935) (by decide +kernel)⟩, List.forall_mem_cons.mpr ⟨⟨zM_X11_gusts, rfl, List.mem_of_getElem? (i := 1172) (by decide +kernel)⟩, List.forall_mem_cons.mpr ⟨⟨zM_X12_gusts, rfl, List.mem_of_getElem? (i := 1939) (by decide +kernel)⟩, List.forall_mem_cons.mpr ⟨⟨zM_X11_years, rfl, List.mem_of_getElem? (i := 1176) (by decide +kernel)⟩, List.forall_mem_cons.mpr ⟨⟨zM_X12_years, rfl, List.mem_of_getElem? (i := 1943) (by decide +kernel)⟩, List.forall_mem_cons.mpr ⟨⟨zM_X11_status, rfl, List.mem_of_getElem? (i := 1191) (by decide +kernel)⟩, List.forall_mem_cons.mpr ⟨⟨zM_X12_status, rfl, List.mem_of_getElem? (i := 1957) (by decide +kernel)⟩, List.forall_mem_cons.mpr ⟨⟨zM_X11_undo, rfl, List.mem_of_getElem? (i := 1195) (by decide +kernel)⟩, List.forall_mem_cons.mpr ⟨⟨zM_X12_undo, rfl, List.mem_of_getElem? (i := 1961) (by decide +kernel)⟩, List.forall_mem_cons.mpr ⟨⟨zM_X11_log, rfl, List.mem_of_getElem? (i := 1203) (by decide +kernel)⟩, List.forall_mem_cons.mpr ⟨⟨zM_X12_log, rfl, List.mem_of_getElem? (i := 1965) (by decide +kernel)⟩, List.forall_mem_cons.mpr ⟨⟨zM_X11_strength, rfl, List.mem_of_getElem? (i := 939) (by decide +kernel)⟩, List.forall_mem_cons.mpr ⟨⟨zM_X12_strength, rfl, List.mem_of_getElem? (i := 1969) (by decide +kernel)⟩, List.forall_mem_cons.mpr ⟨⟨zM_X11_smells, rfl, List.mem_of_getElem? (i := 983) (by decide +kernel)⟩, List.forall_mem_cons.mpr ⟨⟨zM_X12_smells, rfl, List.mem_of_getElem? (i := 1977) (by decide +kernel)⟩, List.forall_mem_cons.mpr ⟨⟨zM_X11_air, rfl, List.mem_of_getElem? (i := 994) (by decide +kernel)⟩, List.forall_mem_cons.mpr ⟨⟨zM_X12_air, rfl, List.mem_of_getElem? (i := 1981) (by decide +kernel)⟩, List.forall_mem_cons.mpr ⟨⟨zM_X11_soon, rfl, List.mem_of_getElem? (i := 1230) (by decide +kernel)⟩, List.forall_mem_cons.mpr ⟨⟨zM_X12_soon, rfl, List.mem_of_getElem? (i := 1989) (by decide +kernel)⟩, List.forall_mem_cons.mpr ⟨⟨zM_X11_ready, rfl, List.mem_of_getElem? (i := 1241) (by decide +kernel)⟩, List.forall_mem_cons.mpr ⟨⟨zM_X12_ready, rfl, List.mem_of_getElem? (i := 2001) (by decide +kernel)⟩, List.forall_mem_cons.mpr ⟨⟨zM_X11_kept, rfl, List.mem_of_getElem? (i := 1250) (by decide +kernel)⟩, List.forall_mem_cons.mpr ⟨⟨zM_X12_kept, rfl, List.mem_of_getElem? (i := 2005) (by decide +kernel)⟩, List.forall_mem_cons.mpr ⟨⟨zM_X11_noted, rfl, List.mem_of_getElem? (i := 1294) (by decide +kernel)⟩, List.forall_mem_cons.mpr ⟨⟨zM_X12_noted, rfl, List.mem_of_getElem? (i := 2017) (by decide +kernel)⟩, List.forall_mem_cons.mpr ⟨⟨zM_X11_heavies, rfl, List.mem_of_getElem? (i := 1303) (by decide +kernel)⟩, List.forall_mem_cons.mpr ⟨⟨zM_X12_heavies, rfl, List.mem_of_getElem? (i := 2021) (by decide +kernel)⟩, List.forall_mem_cons.mpr ⟨⟨zM_X11_ask, rfl, List.mem_of_getElem? (i := 1326) (by decide +kernel)⟩, List.forall_mem_cons.mpr ⟨⟨zM_X12_ask, rfl, List.mem_of_getElem? (i := 2033) (by decide +kernel)⟩, List.forall_mem_cons.mpr ⟨⟨zM_X11_worthwhile, rfl, List.mem_of_getElem? (i := 1342) (by decide +kernel)⟩, List.forall_mem_cons.mpr ⟨⟨zM_X12_worthwhile, rfl, List.mem_of_getElem? (i := 2039) (by decide +kernel)⟩, List.forall_mem_cons.mpr ⟨⟨zM_X11_out, rfl, List.mem_of_getElem? (i := 1362) (by decide +kernel)⟩, List.forall_mem_cons.mpr ⟨⟨zM_X12_out, rfl, List.mem_of_getElem? (i := 2047) (by decide +kernel)⟩, List.forall_mem_cons.mpr ⟨⟨zM_X11_game, rfl, List.mem_of_getElem? (i := 1377) (by decide +kernel)⟩, List.forall_mem_cons.mpr ⟨⟨zM_X12_game, rfl, List.mem_of_getElem? (i := 2051) (by decide +kernel)⟩, List.forall_mem_cons.mpr ⟨⟨zM_X11_rests, rfl, List.mem_of_getElem? (i := 1394) (by decide +kernel)⟩, List.forall_mem_cons.mpr ⟨⟨zM_X12_rests, rfl, List.mem_of_getElem? (i := 2068) (by decide +kernel)⟩, List.forall_mem_cons.mpr ⟨⟨zM_X11_odds, rfl, List.mem_of_getElem? (i := 1279) (by decide +kernel)⟩, List.forall_mem_cons.mpr ⟨⟨zM_X12_odds, rfl, List.mem_of_getElem? (i := 2076) (by decide +kernel)⟩, List.forall_mem_cons.mpr ⟨⟨zM_X11_shares, rfl, List.mem_of_getElem? (i := 1003) (by decide +kernel)⟩, List.forall_mem_cons.mpr ⟨⟨zM_X12_shares, rfl, List.mem_of_getElem? (i := 2086) (by decide +kernel)⟩, List.forall_mem_cons.mpr ⟨⟨zM_X11_most, rfl, List.mem_of_getElem? (i := 1014) (by decide +kernel)⟩, List.forall_mem_cons.mpr ⟨⟨zM_X12_most, rfl, List.mem_of_getElem? (i := 2094) (by decide +kernel)⟩, List.forall_mem_cons.mpr ⟨⟨zM_X11_image, rfl, List.mem_of_getElem? (i := 1213) (by decide +kernel)⟩, List.forall_mem_cons.mpr ⟨⟨zM_X12_image, rfl, List.mem_of_getElem? (i := 2122) (by decide +kernel)⟩, List.forall_mem_cons.mpr ⟨⟨zM_X11_back, rfl, List.mem_of_getElem? (i := 1222) (by decide +kernel)⟩, List.forall_mem_cons.mpr ⟨⟨zM_X12_back, rfl, List.mem_of_getElem? (i := 2126) (by decide +kernel)⟩, List.forall_mem_cons.mpr ⟨⟨zM_X11_count, rfl, List.mem_of_getElem? (i := 1067) (by decide +kernel)⟩, List.forall_mem_cons.mpr ⟨⟨zM_X12_count, rfl, List.mem_of_getElem? (i := 2130) (by decide +kernel)⟩, fun _ h => absurd h List.not_mem_nil⟩⟩⟩⟩⟩⟩⟩⟩⟩⟩⟩⟩⟩⟩⟩⟩⟩⟩⟩⟩⟩⟩⟩⟩⟩⟩⟩⟩⟩⟩⟩⟩⟩⟩⟩⟩⟩⟩⟩⟩⟩⟩⟩⟩⟩⟩⟩⟩⟩⟩⟩⟩⟩⟩⟩⟩⟩⟩⟩⟩⟩⟩⟩⟩⟩⟩⟩⟩⟩⟩⟩⟩⟩⟩⟩⟩⟩⟩⟩⟩⟩
def zM_14 : List (Nat × Nat) := []
theorem zM_14_ok : ∀ q ∈ zM_14, zMok 14 q := fun _ h => absurd h List.not_mem_nil
def zM_all : List (List (Nat × Nat)) := [zM_0, zM_1, zM_2, zM_3, zM_4, zM_5, zM_6, zM_7, zM_8, zM_9, zM_10, zM_11, zM_12, zM_13, zM_14]
def zM (own idx : Nat) : Option (Nat) := (zM_all[own]?).bind (fun r => zlk r idx)
theorem zM_ok {own idx : Nat} {v : Nat} (h : zM own idx = some v) : zMok own (idx, v) := by
  obtain ⟨r, h1, h2⟩ := Option.bind_eq_some_iff.mp h
  have h3 := zlk_mem h2
  match own, h1 with
  | 0, h1 => cases h1; exact zM_0_ok _ h3
  | 1, h1 => cases h1; exact zM_1_ok _ h3
  | 2, h1 => cases h1; exact zM_2_ok _ h3
  | 3, h1 => cases h1; exact zM_3_ok _ h3
  | 4, h1 => cases h1; exact zM_4_ok _ h3
  | 5, h1 => cases h1; exact zM_5_ok _ h3
  | 6, h1 => cases h1; exact zM_6_ok _ h3
  | 7, h1 => cases h1; exact zM_7_ok _ h3
  | 8, h1 => cases h1; exact zM_8_ok _ h3
  | 9, h1 => cases h1; exact zM_9_ok _ h3
  | 10, h1 => cases h1; exact zM_10_ok _ h3
  | 11, h1 => cases h1; exact zM_11_ok _ h3
  | 12, h1 => cases h1; exact zM_12_ok _ h3
  | 13, h1 => cases h1; exact zM_13_ok _ h3
  | 14, h1 => cases h1; exact zM_14_ok _ h3
  | n + 15, h1 => simp [zM_all] at h1
def zNok (own : Nat) (q : Nat × Nat) : Prop := ∃ e, zMt q.2 = some e ∧ Cond.methodLinkNest (zRN own) q.1 e.1 "SmokedSecrets" ∈ lw_tbl ∧ e.2.2.2.2.2.2.1 = 2
def zNl_0 : List (Nat × Nat) := []
theorem zNl_0_ok : ∀ q ∈ zNl_0, zNok 0 q := fun _ h => absurd h List.not_mem_nil
def zNl_1 : List (Nat × Nat) := [(13, 0)]
theorem zNl_1_ok : ∀ q ∈ zNl_1, zNok 1 q := List.forall_mem_cons.mpr ⟨⟨zM_X0_init, rfl, List.mem_of_getElem? (i := 200) (by decide +kernel), rfl⟩, fun _ h => absurd h List.not_mem_nil⟩
def zNl_2 : List (Nat × Nat) := [(11, 106)]
theorem zNl_2_ok : ∀ q ∈ zNl_2, zNok 2 q := List.forall_mem_cons.mpr ⟨⟨zM_X8_init, rfl, List.mem_of_getElem? (i := 406) (by decide +kernel), rfl⟩, fun _ h => absurd h List.not_mem_nil⟩
def zNl_3 : List (Nat × Nat) := [(26, 106)]
theorem zNl_3_ok : ∀ q ∈ zNl_3, zNok 3 q := List.forall_mem_cons.mpr ⟨⟨zM_X8_init, rfl, List.mem_of_getElem? (i := 382) (by decide +kernel), rfl⟩, fun _ h => absurd h List.not_mem_nil⟩
def zNl_4 : List (Nat × Nat) := []
theorem zNl_4_ok : ∀ q ∈ zNl_4, zNok 4 q := fun _ h => absurd h List.not_mem_nil
def zNl_5 : List (Nat × Nat) := [(11, 68)]
theorem zNl_5_ok : ∀ q ∈ zNl_5, zNok 5 q := List.forall_mem_cons.mpr ⟨⟨zM_X4_init, rfl, List.mem_of_getElem? (i := 219) (by decide +kernel), rfl⟩, fun _ h => absurd h List.not_mem_nil⟩
def zNl_6 : List (Nat × Nat) := [(29, 106)]
theorem zNl_6_ok : ∀ q ∈ zNl_6, zNok 6 q := List.forall_mem_cons.mpr ⟨⟨zM_X8_init, rfl, List.mem_of_getElem? (i := 326) (by decide +kernel), rfl⟩, fun _ h => absurd h List.not_mem_nil⟩
def zNl_7 : List (Nat × Nat) := []
theorem zNl_7_ok : ∀ q ∈ zNl_7, zNok 7 q := fun _ h => absurd h List.not_mem_nil
def zNl_8 : List (Nat × Nat) := []
theorem zNl_8_ok : ∀ q ∈ zNl_8, zNok 8 q := fun _ h => absurd h List.not_mem_nil
def zNl_9 : List (Nat × Nat) := []
theorem zNl_9_ok : ∀ q ∈ zNl_9, zNok 9 q := fun _ h => absurd h List.not_mem_nil
def zNl_10 : List (Nat × Nat) := []
theorem zNl_10_ok : ∀ q ∈ zNl_10, zNok 10 q := fun _ h => absurd h List.not_mem_nil
def zNl_11 : List (Nat × Nat) := [(9, 119), (18, 0), (45, 68), (57, 106)]
theorem zNl_11_ok : ∀ q ∈ zNl_11, zNok 11 q := List.forall_mem_cons.mpr ⟨⟨zM_X9_init, rfl, List.mem_of_getElem? (i := 148) (by decide +kernel), rfl⟩, List.forall_mem_cons.mpr ⟨⟨zM_X0_init, rfl, List.mem_of_getElem? (i := 165) (by decide +kernel), rfl⟩, List.forall_mem_cons.mpr ⟨⟨zM_X4_init, rfl, List.mem_of_getElem? (i := 244) (by decide +kernel), rfl⟩, List.forall_mem_cons.mpr ⟨⟨zM_X8_init, rfl, List.mem_of_getElem? (i := 249) (by decide +kernel), rfl⟩, fun _ h => absurd h List.not_mem_nil⟩⟩⟩⟩
def zNl_12 : List (Nat × Nat) := []
theorem zNl_12_ok : ∀ q ∈ zNl_12, zNok 12 q := fun _ h => absurd h List.not_mem_nil
def zNl_13 : List (Nat × Nat) := []
theorem zNl_13_ok : ∀ q ∈ zNl_13, zNok 13 q := fun _ h => absurd h List.not_mem_nil
def zNl_14 : List (Nat × Nat) := []
theorem zNl_14_ok : ∀ q ∈ zNl_14, zNok 14 q := fun _ h => absurd h List.not_mem_nil
def zNl_all : List (List (Nat × Nat)) := [zNl_0, zNl_1, zNl_2, zNl_3, zNl_4, zNl_5, zNl_6, zNl_7, zNl_8, zNl_9, zNl_10, zNl_11, zNl_12, zNl_13, zNl_14]
def zNl (own idx : Nat) : Option (Nat) := (zNl_all[own]?).bind (fun r => zlk r idx)
theorem zNl_ok {own idx : Nat} {v : Nat} (h : zNl own idx = some v) : zNok own (idx, v) := by
  obtain ⟨r, h1, h2⟩ := Option.bind_eq_some_iff.mp h
  have h3 := zlk_mem h2
  match own, h1 with
  | 0, h1 => cases h1; exact zNl_0_ok _ h3
  | 1, h1 => cases h1; exact zNl_1_ok _ h3
  | 2, h1 => cases h1; exact zNl_2_ok _ h3
  | 3, h1 => cases h1; exact zNl_3_ok _ h3
  | 4, h1 => cases h1; exact zNl_4_ok _ h3
  | 5, h1 => cases h1; exact zNl_5_ok _ h3
  | 6, h1 => cases h1; exact zNl_6_ok _ h3
  | 7, h1 => cases h1; exact zNl_7_ok _ h3
  | 8, h1 => cases h1; exact zNl_8_ok _ h3
  | 9, h1 => cases h1; exact zNl_9_ok _ h3
  | 10, h1 => cases h1; exact zNl_10_ok _ h3
  | 11, h1 => cases h1; exact zNl_11_ok _ h3
  | 12, h1 => cases h1; exact zNl_12_ok _ h3
  | 13, h1 => cases h1; exact zNl_13_ok _ h3
  | 14, h1 => cases h1; exact zNl_14_ok _ h3
  | n + 15, h1 => simp [zNl_all] at h1
def zXok (own : Nat) (q : Nat × Nat) : Prop := Cond.methodLink (zRN own) q.1 (zXn q.2) ∈ lw_tbl
def zX_0 : List (Nat × Nat) := [(5, 1000), (71, 1003)]
theorem zX_0_ok : ∀ q ∈ zX_0, zXok 0 q := List.forall_mem_cons.mpr ⟨List.mem_of_getElem? (i := 168) (by decide +kernel), List.forall_mem_cons.mpr ⟨List.mem_of_getElem? (i := 1375) (by decide +kernel), fun _ h => absurd h List.not_mem_nil⟩⟩
def zX_1 : List (Nat × Nat) := [(7, 1000)]
theorem zX_1_ok : ∀ q ∈ zX_1, zXok 1 q := List.forall_mem_cons.mpr ⟨List.mem_of_getElem? (i := 198) (by decide +kernel), fun _ h => absurd h List.not_mem_nil⟩
def zX_2 : List (Nat × Nat) := [(3, 1000), (95, 1003)]
theorem zX_2_ok : ∀ q ∈ zX_2, zXok 2 q := List.forall_mem_cons.mpr ⟨List.mem_of_getElem? (i := 404) (by decide +kernel), List.forall_mem_cons.mpr ⟨List.mem_of_getElem? (i := 1339) (by decide +kernel), fun _ h => absurd h List.not_mem_nil⟩⟩
def zX_3 : List (Nat × Nat) := [(3, 1000), (60, 1001), (95, 1002)]
theorem zX_3_ok : ∀ q ∈ zX_3, zXok 3 q := List.forall_mem_cons.mpr ⟨List.mem_of_getElem? (i := 378) (by decide +kernel), List.forall_mem_cons.mpr ⟨List.mem_of_getElem? (i := 1265) (by decide +kernel), List.forall_mem_cons.mpr ⟨List.mem_of_getElem? (i := 1274) (by decide +kernel), fun _ h => absurd h List.not_mem_nil⟩⟩⟩
def zX_4 : List (Nat × Nat) := [(1, 1000), (42, 1006), (47, 1002)]
theorem zX_4_ok : ∀ q ∈ zX_4, zXok 4 q := List.forall_mem_cons.mpr ⟨List.mem_of_getElem? (i := 222) (by decide +kernel), List.forall_mem_cons.mpr ⟨List.mem_of_getElem? (i := 972) (by decide +kernel), List.forall_mem_cons.mpr ⟨List.mem_of_getElem? (i := 973) (by decide +kernel), fun _ h => absurd h List.not_mem_nil⟩⟩⟩
def zX_5 : List (Nat × Nat) := [(3, 1000), (97, 1007)]
theorem zX_5_ok : ∀ q ∈ zX_5, zXok 5 q := List.forall_mem_cons.mpr ⟨List.mem_of_getElem? (i := 216) (by decide +kernel), List.forall_mem_cons.mpr ⟨List.mem_of_getElem? (i := 662) (by decide +kernel), fun _ h => absurd h List.not_mem_nil⟩⟩
def zX_6 : List (Nat × Nat) := [(5, 1000), (53, 1001)]
theorem zX_6_ok : ∀ q ∈ zX_6, zXok 6 q := List.forall_mem_cons.mpr ⟨List.mem_of_getElem? (i := 321) (by decide +kernel), List.forall_mem_cons.mpr ⟨List.mem_of_getElem? (i := 1079) (by decide +kernel), fun _ h => absurd h List.not_mem_nil⟩⟩
def zX_7 : List (Nat × Nat) := [(1, 1000), (13, 1001), (19, 1008)]
theorem zX_7_ok : ∀ q ∈ zX_7, zXok 7 q := List.forall_mem_cons.mpr ⟨List.mem_of_getElem? (i := 174) (by decide +kernel), List.forall_mem_cons.mpr ⟨List.mem_of_getElem? (i := 798) (by decide +kernel), List.forall_mem_cons.mpr ⟨List.mem_of_getElem? (i := 799) (by decide +kernel), fun _ h => absurd h List.not_mem_nil⟩⟩⟩
def zX_8 : List (Nat × Nat) := [(3, 1000), (74, 1001)]
theorem zX_8_ok : ∀ q ∈ zX_8, zXok 8 q := List.forall_mem_cons.mpr ⟨List.mem_of_getElem? (i := 252) (by decide +kernel), List.forall_mem_cons.mpr ⟨List.mem_of_getElem? (i := 1123) (by decide +kernel), fun _ h => absurd h List.not_mem_nil⟩⟩
def zX_9 : List (Nat × Nat) := [(3, 1000)]
theorem zX_9_ok : ∀ q ∈ zX_9, zXok 9 q := List.forall_mem_cons.mpr ⟨List.mem_of_getElem? (i := 151) (by decide +kernel), fun _ h => absurd h List.not_mem_nil⟩
def zX_10 : List (Nat × Nat) := [(3, 1000), (106, 1001), (112, 1002)]
theorem zX_10_ok : ∀ q ∈ zX_10, zXok 10 q := List.forall_mem_cons.mpr ⟨List.mem_of_getElem? (i := 354) (by decide +kernel), List.forall_mem_cons.mpr ⟨List.mem_of_getElem? (i := 981) (by decide +kernel), List.forall_mem_cons.mpr ⟨List.mem_of_getElem? (i := 982) (by decide +kernel), fun _ h => absurd h List.not_mem_nil⟩⟩⟩
def zX_11 : List (Nat × Nat) := [(1, 1000), (335, 1001)]
theorem zX_11_ok : ∀ q ∈ zX_11, zXok 11 q := List.forall_mem_cons.mpr ⟨List.mem_of_getElem? (i := 143) (by decide +kernel), List.forall_mem_cons.mpr ⟨List.mem_of_getElem? (i := 1190) (by decide +kernel), fun _ h => absurd h List.not_mem_nil⟩⟩
def zX_12 : List (Nat × Nat) := [(3, 1000), (190, 1004), (196, 1005), (289, 1001), (306, 1002), (414, 1003)]
theorem zX_12_ok : ∀ q ∈ zX_12, zXok 12 q := List.forall_mem_cons.mpr ⟨List.mem_of_getElem? (i := 1481) (by decide +kernel), List.forall_mem_cons.mpr ⟨List.mem_of_getElem? (i := 1898) (by decide +kernel), List.forall_mem_cons.mpr ⟨List.mem_of_getElem? (i := 1901) (by decide +kernel), List.forall_mem_cons.mpr ⟨List.mem_of_getElem? (i := 1904) (by decide +kernel), List.forall_mem_cons.mpr ⟨List.mem_of_getElem? (i := 1905) (by decide +kernel), List.forall_mem_cons.mpr ⟨List.mem_of_getElem? (i := 2038) (by decide +kernel), fun _ h => absurd h List.not_mem_nil⟩⟩⟩⟩⟩⟩
def zX_13 : List (Nat × Nat) := [(42, 1009)]
theorem zX_13_ok : ∀ q ∈ zX_13, zXok 13 q := List.forall_mem_cons.mpr ⟨List.mem_of_getElem? (i := 1407) (by decide +kernel), fun _ h => absurd h List.not_mem_nil⟩
def zX_14 : List (Nat × Nat) := []
theorem zX_14_ok : ∀ q ∈ zX_14, zXok 14 q := fun _ h => absurd h List.not_mem_nil
def zX_all : List (List (Nat × Nat)) := [zX_0, zX_1, zX_2, zX_3, zX_4, zX_5, zX_6, zX_7, zX_8, zX_9, zX_10, zX_11, zX_12, zX_13, zX_14]
def zX (own idx : Nat) : Option (Nat) := (zX_all[own]?).bind (fun r => zlk r idx)
theorem zX_ok {own idx : Nat} {v : Nat} (h : zX own idx = some v) : zXok own (idx, v) := by
  obtain ⟨r, h1, h2⟩ := Option.bind_eq_some_iff.mp h
  have h3 := zlk_mem h2
  match own, h1 with
  | 0, h1 => cases h1; exact zX_0_ok _ h3
  | 1, h1 => cases h1; exact zX_1_ok _ h3
  | 2, h1 => cases h1; exact zX_2_ok _ h3
  | 3, h1 => cases h1; exact zX_3_ok _ h3
  | 4, h1 => cases h1; exact zX_4_ok _ h3
  | 5, h1 => cases h1; exact zX_5_ok _ h3
  | 6, h1 => cases h1; exact zX_6_ok _ h3
  | 7, h1 => cases h1; exact zX_7_ok _ h3
  | 8, h1 => cases h1; exact zX_8_ok _ h3
  | 9, h1 => cases h1; exact zX_9_ok _ h3
  | 10, h1 => cases h1; exact zX_10_ok _ h3
  | 11, h1 => cases h1; exact zX_11_ok _ h3
  | 12, h1 => cases h1; exact zX_12_ok _ h3
  | 13, h1 => cases h1; exact zX_13_ok _ h3
  | 14, h1 => cases h1; exact zX_14_ok _ h3
  | n + 15, h1 => simp [zX_all] at h1
def zKok (own : Nat) (q : Nat × Nat) : Prop := Cond.classLink (zRN own) q.1 (zRN q.2) ∈ lw_tbl ∧ q.2 < 13
def zKl_0 : List (Nat × Nat) := [(11, 7)]
theorem zKl_0_ok : ∀ q ∈ zKl_0, zKok 0 q := List.forall_mem_cons.mpr ⟨⟨List.mem_of_getElem? (i := 169) (by decide +kernel), by decide⟩, fun _ h => absurd h List.not_mem_nil⟩
def zKl_1 : List (Nat × Nat) := [(1, 0)]
theorem zKl_1_ok : ∀ q ∈ zKl_1, zKok 1 q := List.forall_mem_cons.mpr ⟨⟨List.mem_of_getElem? (i := 199) (by decide +kernel), by decide⟩, fun _ h => absurd h List.not_mem_nil⟩
def zKl_2 : List (Nat × Nat) := [(9, 8), (18, 7)]
theorem zKl_2_ok : ∀ q ∈ zKl_2, zKok 2 q := List.forall_mem_cons.mpr ⟨⟨List.mem_of_getElem? (i := 405) (by decide +kernel), by decide⟩, List.forall_mem_cons.mpr ⟨⟨List.mem_of_getElem? (i := 407) (by decide +kernel), by decide⟩, fun _ h => absurd h List.not_mem_nil⟩⟩
def zKl_3 : List (Nat × Nat) := [(11, 8), (17, 7)]
theorem zKl_3_ok : ∀ q ∈ zKl_3, zKok 3 q := List.forall_mem_cons.mpr ⟨⟨List.mem_of_getElem? (i := 379) (by decide +kernel), by decide⟩, List.forall_mem_cons.mpr ⟨⟨List.mem_of_getElem? (i := 380) (by decide +kernel), by decide⟩, fun _ h => absurd h List.not_mem_nil⟩⟩
def zKl_4 : List (Nat × Nat) := [(7, 7)]
theorem zKl_4_ok : ∀ q ∈ zKl_4, zKok 4 q := List.forall_mem_cons.mpr ⟨⟨List.mem_of_getElem? (i := 223) (by decide +kernel), by decide⟩, fun _ h => absurd h List.not_mem_nil⟩
def zKl_5 : List (Nat × Nat) := [(9, 4)]
theorem zKl_5_ok : ∀ q ∈ zKl_5, zKok 5 q := List.forall_mem_cons.mpr ⟨⟨List.mem_of_getElem? (i := 217) (by decide +kernel), by decide⟩, fun _ h => absurd h List.not_mem_nil⟩
def zKl_6 : List (Nat × Nat) := [(11, 8), (17, 7)]
theorem zKl_6_ok : ∀ q ∈ zKl_6, zKok 6 q := List.forall_mem_cons.mpr ⟨⟨List.mem_of_getElem? (i := 322) (by decide +kernel), by decide⟩, List.forall_mem_cons.mpr ⟨⟨List.mem_of_getElem? (i := 324) (by decide +kernel), by decide⟩, fun _ h => absurd h List.not_mem_nil⟩⟩
def zKl_7 : List (Nat × Nat) := []
theorem zKl_7_ok : ∀ q ∈ zKl_7, zKok 7 q := fun _ h => absurd h List.not_mem_nil
def zKl_8 : List (Nat × Nat) := [(9, 7)]
theorem zKl_8_ok : ∀ q ∈ zKl_8, zKok 8 q := List.forall_mem_cons.mpr ⟨⟨List.mem_of_getElem? (i := 253) (by decide +kernel), by decide⟩, fun _ h => absurd h List.not_mem_nil⟩
def zKl_9 : List (Nat × Nat) := []
theorem zKl_9_ok : ∀ q ∈ zKl_9, zKok 9 q := fun _ h => absurd h List.not_mem_nil
def zKl_10 : List (Nat × Nat) := [(9, 7)]
theorem zKl_10_ok : ∀ q ∈ zKl_10, zKok 10 q := List.forall_mem_cons.mpr ⟨⟨List.mem_of_getElem? (i := 355) (by decide +kernel), by decide⟩, fun _ h => absurd h List.not_mem_nil⟩
def zKl_11 : List (Nat × Nat) := [(7, 9), (16, 0), (23, 1), (32, 5), (39, 4), (46, 7), (55, 8), (62, 6), (69, 10), (78, 3), (87, 2)]
theorem zKl_11_ok : ∀ q ∈ zKl_11, zKok 11 q := List.forall_mem_cons.mpr ⟨⟨List.mem_of_getElem? (i := 146) (by decide +kernel), by decide⟩, List.forall_mem_cons.mpr ⟨⟨List.mem_of_getElem? (i := 163) (by decide +kernel), by decide⟩, List.forall_mem_cons.mpr ⟨⟨List.mem_of_getElem? (i := 193) (by decide +kernel), by decide⟩, List.forall_mem_cons.mpr ⟨⟨List.mem_of_getElem? (i := 211) (by decide +kernel), by decide⟩, List.forall_mem_cons.mpr ⟨⟨List.mem_of_getElem? (i := 242) (by decide +kernel), by decide⟩, List.forall_mem_cons.mpr ⟨⟨List.mem_of_getElem? (i := 245) (by decide +kernel), by decide⟩, List.forall_mem_cons.mpr ⟨⟨List.mem_of_getElem? (i := 247) (by decide +kernel), by decide⟩, List.forall_mem_cons.mpr ⟨⟨List.mem_of_getElem? (i := 316) (by decide +kernel), by decide⟩, List.forall_mem_cons.mpr ⟨⟨List.mem_of_getElem? (i := 349) (by decide +kernel), by decide⟩, List.forall_mem_cons.mpr ⟨⟨List.mem_of_getElem? (i := 373) (by decide +kernel), by decide⟩, List.forall_mem_cons.mpr ⟨⟨List.mem_of_getElem? (i := 399) (by decide +kernel), by decide⟩, fun _ h => absurd h List.not_mem_nil⟩⟩⟩⟩⟩⟩⟩⟩⟩⟩⟩
def zKl_12 : List (Nat × Nat) := []
theorem zKl_12_ok : ∀ q ∈ zKl_12, zKok 12 q := fun _ h => absurd h List.not_mem_nil
def zKl_13 : List (Nat × Nat) := [(8, 11), (16, 12)]
theorem zKl_13_ok : ∀ q ∈ zKl_13, zKok 13 q := List.forall_mem_cons.mpr ⟨⟨List.mem_of_getElem? (i := 138) (by decide +kernel), by decide⟩, List.forall_mem_cons.mpr ⟨⟨List.mem_of_getElem? (i := 1476) (by decide +kernel), by decide⟩, fun _ h => absurd h List.not_mem_nil⟩⟩
def zKl_14 : List (Nat × Nat) := []
theorem zKl_14_ok : ∀ q ∈ zKl_14, zKok 14 q := fun _ h => absurd h List.not_mem_nil
def zKl_all : List (List (Nat × Nat)) := [zKl_0, zKl_1, zKl_2, zKl_3, zKl_4, zKl_5, zKl_6, zKl_7, zKl_8, zKl_9, zKl_10, zKl_11, zKl_12, zKl_13, zKl_14]
def zKl (own idx : Nat) : Option (Nat) := (zKl_all[own]?).bind (fun r => zlk r idx)
theorem zKl_ok {own idx : Nat} {v : Nat} (h : zKl own idx = some v) : zKok own (idx, v) := by
  obtain ⟨r, h1, h2⟩ := Option.bind_eq_some_iff.mp h
  have h3 := zlk_mem h2
  match own, h1 with
  | 0, h1 => cases h1; exact zKl_0_ok _ h3
  | 1, h1 => cases h1; exact zKl_1_ok _ h3
  | 2, h1 => cases h1; exact zKl_2_ok _ h3
  | 3, h1 => cases h1; exact zKl_3_ok _ h3
  | 4, h1 => cases h1; exact zKl_4_ok _ h3
  | 5, h1 => cases h1; exact zKl_5_ok _ h3
  | 6, h1 => cases h1; exact zKl_6_ok _ h3
  | 7, h1 => cases h1; exact zKl_7_ok _ h3
  | 8, h1 => cases h1; exact zKl_8_ok _ h3
  | 9, h1 => cases h1; exact zKl_9_ok _ h3
  | 10, h1 => cases h1; exact zKl_10_ok _ h3
  | 11, h1 => cases h1; exact zKl_11_ok _ h3
  | 12, h1 => cases h1; exact zKl_12_ok _ h3
  | 13, h1 => cases h1; exact zKl_13_ok _ h3
  | 14, h1 => cases h1; exact zKl_14_ok _ h3
  | n + 15, h1 => simp [zKl_all] at h1
def zCok (own : Nat) (q : Nat × Int32) : Prop := Cond.constant (zRN own) q.1 q.2 ∈ lw_tbl
def zCl_0 : List (Nat × Int32) := []
theorem zCl_0_ok : ∀ q ∈ zCl_0, zCok 0 q := fun _ h => absurd h List.not_mem_nil
def zCl_1 : List (Nat × Int32) := []
theorem zCl_1_ok : ∀ q ∈ zCl_1, zCok 1 q := fun _ h => absurd h List.not_mem_nil
def zCl_2 : List (Nat × Int32) := []
theorem zCl_2_ok : ∀ q ∈ zCl_2, zCok 2 q := fun _ h => absurd h List.not_mem_nil
def zCl_3 : List (Nat × Int32) := [(98, 1000000000)]
theorem zCl_3_ok : ∀ q ∈ zCl_3, zCok 3 q := List.forall_mem_cons.mpr ⟨List.mem_of_getElem? (i := 1287) (by decide +kernel), fun _ h => absurd h List.not_mem_nil⟩
def zCl_4 : List (Nat × Int32) := [(59, 1000000), (62, -1000000)]
theorem zCl_4_ok : ∀ q ∈ zCl_4, zCok 4 q := List.forall_mem_cons.mpr ⟨List.mem_of_getElem? (i := 978) (by decide +kernel), List.forall_mem_cons.mpr ⟨List.mem_of_getElem? (i := 980) (by decide +kernel), fun _ h => absurd h List.not_mem_nil⟩⟩
def zCl_5 : List (Nat × Int32) := []
theorem zCl_5_ok : ∀ q ∈ zCl_5, zCok 5 q := fun _ h => absurd h List.not_mem_nil
def zCl_6 : List (Nat × Int32) := []
theorem zCl_6_ok : ∀ q ∈ zCl_6, zCok 6 q := fun _ h => absurd h List.not_mem_nil
def zCl_7 : List (Nat × Int32) := []
theorem zCl_7_ok : ∀ q ∈ zCl_7, zCok 7 q := fun _ h => absurd h List.not_mem_nil
def zCl_8 : List (Nat × Int32) := []
theorem zCl_8_ok : ∀ q ∈ zCl_8, zCok 8 q := fun _ h => absurd h List.not_mem_nil
def zCl_9 : List (Nat × Int32) := []
theorem zCl_9_ok : ∀ q ∈ zCl_9, zCok 9 q := fun _ h => absurd h List.not_mem_nil
def zCl_10 : List (Nat × Int32) := []
theorem zCl_10_ok : ∀ q ∈ zCl_10, zCok 10 q := fun _ h => absurd h List.not_mem_nil
def zCl_11 : List (Nat × Int32) := [(299, -1000000)]
theorem zCl_11_ok : ∀ q ∈ zCl_11, zCok 11 q := List.forall_mem_cons.mpr ⟨List.mem_of_getElem? (i := 1084) (by decide +kernel), fun _ h => absurd h List.not_mem_nil⟩
def zCl_12 : List (Nat × Int32) := [(432, -1000000), (446, 1000000000)]
theorem zCl_12_ok : ∀ q ∈ zCl_12, zCok 12 q := List.forall_mem_cons.mpr ⟨List.mem_of_getElem? (i := 2059) (by decide +kernel), List.forall_mem_cons.mpr ⟨List.mem_of_getElem? (i := 2080) (by decide +kernel), fun _ h => absurd h List.not_mem_nil⟩⟩
def zCl_13 : List (Nat × Int32) := []
theorem zCl_13_ok : ∀ q ∈ zCl_13, zCok 13 q := fun _ h => absurd h List.not_mem_nil
def zCl_14 : List (Nat × Int32) := [(265, 1431655765), (266, 858993459), (267, 252645135)]
theorem zCl_14_ok : ∀ q ∈ zCl_14, zCok 14 q := List.forall_mem_cons.mpr ⟨List.mem_of_getElem? (i := 1037) (by decide +kernel), List.forall_mem_cons.mpr ⟨List.mem_of_getElem? (i := 1038) (by decide +kernel), List.forall_mem_cons.mpr ⟨List.mem_of_getElem? (i := 1039) (by decide +kernel), fun _ h => absurd h List.not_mem_nil⟩⟩⟩
def zCl_all : List (List (Nat × Int32)) := [zCl_0, zCl_1, zCl_2, zCl_3, zCl_4, zCl_5, zCl_6, zCl_7, zCl_8, zCl_9, zCl_10, zCl_11, zCl_12, zCl_13, zCl_14]
def zCl (own idx : Nat) : Option (Int32) := (zCl_all[own]?).bind (fun r => zlk r idx)
theorem zCl_ok {own idx : Nat} {v : Int32} (h : zCl own idx = some v) : zCok own (idx, v) := by
  obtain ⟨r, h1, h2⟩ := Option.bind_eq_some_iff.mp h
  have h3 := zlk_mem h2
  match own, h1 with
  | 0, h1 => cases h1; exact zCl_0_ok _ h3
  | 1, h1 => cases h1; exact zCl_1_ok _ h3
  | 2, h1 => cases h1; exact zCl_2_ok _ h3
  | 3, h1 => cases h1; exact zCl_3_ok _ h3
  | 4, h1 => cases h1; exact zCl_4_ok _ h3
  | 5, h1 => cases h1; exact zCl_5_ok _ h3
  | 6, h1 => cases h1; exact zCl_6_ok _ h3
  | 7, h1 => cases h1; exact zCl_7_ok _ h3
  | 8, h1 => cases h1; exact zCl_8_ok _ h3
  | 9, h1 => cases h1; exact zCl_9_ok _ h3
  | 10, h1 => cases h1; exact zCl_10_ok _ h3
  | 11, h1 => cases h1; exact zCl_11_ok _ h3
  | 12, h1 => cases h1; exact zCl_12_ok _ h3
  | 13, h1 => cases h1; exact zCl_13_ok _ h3
  | 14, h1 => cases h1; exact zCl_14_ok _ h3
  | n + 15, h1 => simp [zCl_all] at h1
def zC2ok (own : Nat) (q : Nat × Int64) : Prop := Cond.constantLong (zRN own) q.1 q.2 ∈ lw_tbl
def zC2_0 : List (Nat × Int64) := []
theorem zC2_0_ok : ∀ q ∈ zC2_0, zC2ok 0 q := fun _ h => absurd h List.not_mem_nil
def zC2_1 : List (Nat × Int64) := []
theorem zC2_1_ok : ∀ q ∈ zC2_1, zC2ok 1 q := fun _ h => absurd h List.not_mem_nil
def zC2_2 : List (Nat × Int64) := []
theorem zC2_2_ok : ∀ q ∈ zC2_2, zC2ok 2 q := fun _ h => absurd h List.not_mem_nil
def zC2_3 : List (Nat × Int64) := [(107, 100)]
theorem zC2_3_ok : ∀ q ∈ zC2_3, zC2ok 3 q := List.forall_mem_cons.mpr ⟨List.mem_of_getElem? (i := 1293) (by decide +kernel), fun _ h => absurd h List.not_mem_nil⟩
def zC2_4 : List (Nat × Int64) := [(57, 1000000), (60, -1000000)]
theorem zC2_4_ok : ∀ q ∈ zC2_4, zC2ok 4 q := List.forall_mem_cons.mpr ⟨List.mem_of_getElem? (i := 977) (by decide +kernel), List.forall_mem_cons.mpr ⟨List.mem_of_getElem? (i := 979) (by decide +kernel), fun _ h => absurd h List.not_mem_nil⟩⟩
def zC2_5 : List (Nat × Int64) := []
theorem zC2_5_ok : ∀ q ∈ zC2_5, zC2ok 5 q := fun _ h => absurd h List.not_mem_nil
def zC2_6 : List (Nat × Int64) := []
theorem zC2_6_ok : ∀ q ∈ zC2_6, zC2ok 6 q := fun _ h => absurd h List.not_mem_nil
def zC2_7 : List (Nat × Int64) := []
theorem zC2_7_ok : ∀ q ∈ zC2_7, zC2ok 7 q := fun _ h => absurd h List.not_mem_nil
def zC2_8 : List (Nat × Int64) := []
theorem zC2_8_ok : ∀ q ∈ zC2_8, zC2ok 8 q := fun _ h => absurd h List.not_mem_nil
def zC2_9 : List (Nat × Int64) := []
theorem zC2_9_ok : ∀ q ∈ zC2_9, zC2ok 9 q := fun _ h => absurd h List.not_mem_nil
def zC2_10 : List (Nat × Int64) := []
theorem zC2_10_ok : ∀ q ∈ zC2_10, zC2ok 10 q := fun _ h => absurd h List.not_mem_nil
def zC2_11 : List (Nat × Int64) := [(340, 6364136223846793005), (342, 1442695040888963407)]
theorem zC2_11_ok : ∀ q ∈ zC2_11, zC2ok 11 q := List.forall_mem_cons.mpr ⟨List.mem_of_getElem? (i := 1188) (by decide +kernel), List.forall_mem_cons.mpr ⟨List.mem_of_getElem? (i := 1189) (by decide +kernel), fun _ h => absurd h List.not_mem_nil⟩⟩
def zC2_12 : List (Nat × Int64) := [(186, -1000000), (188, 1000000), (370, 6364136223846793005), (372, 1442695040888963407), (441, 100)]
theorem zC2_12_ok : ∀ q ∈ zC2_12, zC2ok 12 q := List.forall_mem_cons.mpr ⟨List.mem_of_getElem? (i := 1896) (by decide +kernel), List.forall_mem_cons.mpr ⟨List.mem_of_getElem? (i := 1897) (by decide +kernel), List.forall_mem_cons.mpr ⟨List.mem_of_getElem? (i := 1955) (by decide +kernel), List.forall_mem_cons.mpr ⟨List.mem_of_getElem? (i := 1956) (by decide +kernel), List.forall_mem_cons.mpr ⟨List.mem_of_getElem? (i := 2085) (by decide +kernel), fun _ h => absurd h List.not_mem_nil⟩⟩⟩⟩⟩
def zC2_13 : List (Nat × Int64) := [(92, 4294967295)]
theorem zC2_13_ok : ∀ q ∈ zC2_13, zC2ok 13 q := List.forall_mem_cons.mpr ⟨List.mem_of_getElem? (i := 2134) (by decide +kernel), fun _ h => absurd h List.not_mem_nil⟩
def zC2_14 : List (Nat × Int64) := []
theorem zC2_14_ok : ∀ q ∈ zC2_14, zC2ok 14 q := fun _ h => absurd h List.not_mem_nil
def zC2_all : List (List (Nat × Int64)) := [zC2_0, zC2_1, zC2_2, zC2_3, zC2_4, zC2_5, zC2_6, zC2_7, zC2_8, zC2_9, zC2_10, zC2_11, zC2_12, zC2_13, zC2_14]
def zC2 (own idx : Nat) : Option (Int64) := (zC2_all[own]?).bind (fun r => zlk r idx)
theorem zC2_ok {own idx : Nat} {v : Int64} (h : zC2 own idx = some v) : zC2ok own (idx, v) := by
  obtain ⟨r, h1, h2⟩ := Option.bind_eq_some_iff.mp h
  have h3 := zlk_mem h2
  match own, h1 with
  | 0, h1 => cases h1; exact zC2_0_ok _ h3
  | 1, h1 => cases h1; exact zC2_1_ok _ h3
  | 2, h1 => cases h1; exact zC2_2_ok _ h3
  | 3, h1 => cases h1; exact zC2_3_ok _ h3
  | 4, h1 => cases h1; exact zC2_4_ok _ h3
  | 5, h1 => cases h1; exact zC2_5_ok _ h3
  | 6, h1 => cases h1; exact zC2_6_ok _ h3
  | 7, h1 => cases h1; exact zC2_7_ok _ h3
  | 8, h1 => cases h1; exact zC2_8_ok _ h3
  | 9, h1 => cases h1; exact zC2_9_ok _ h3
  | 10, h1 => cases h1; exact zC2_10_ok _ h3
  | 11, h1 => cases h1; exact zC2_11_ok _ h3
  | 12, h1 => cases h1; exact zC2_12_ok _ h3
  | 13, h1 => cases h1; exact zC2_13_ok _ h3
  | 14, h1 => cases h1; exact zC2_14_ok _ h3
  | n + 15, h1 => simp [zC2_all] at h1
/-- the fields of a class: 0 int, 1 long, 2 a reference, 3 boolean; final or not -/
def zFd_all : List (List (Nat × Bool)) := [[(2, true), (0, false), (0, false), (0, false)], [(2, true), (2, true), (3, false)], [(2, true), (2, true), (2, true), (2, true), (2, true), (2, true), (2, true), (2, true), (0, false)], [(2, true), (2, true), (2, true), (2, true), (2, true)], [(2, true), (2, true), (0, false)], [(2, true), (2, true)], [(2, true), (2, true), (2, true), (2, true), (3, false), (0, false), (0, false)], [(2, true)], [(2, true), (2, true), (2, true), (2, true), (0, false), (0, false), (0, false), (0, false), (0, false), (0, false), (0, false)], [(2, true), (0, false), (0, false)], [(2, true), (2, true), (2, true), (2, true), (2, false)], [(2, true), (2, true), (2, true), (2, true), (2, true), (2, true), (2, true), (2, true), (2, true), (2, true), (2, true), (0, false), (0, false), (0, false), (1, false)], [(0, false), (2, true), (0, false), (0, false), (0, false), (0, false), (2, true), (2, true), (2, true), (2, true), (2, true), (2, true), (2, true), (0, false), (0, false), (2, true), (2, true), (2, true), (2, true), (2, true), (0, false), (0, false), (2, true), (2, true), (2, true), (0, false), (0, false), (0, false), (2, true), (2, true), (0, false), (0, false), (2, true), (2, true), (2, true), (0, false), (1, false), (2, true), (0, false), (0, false), (2, true), (2, true), (2, true), (0, false), (0, false), (0, false), (2, true), (3, false)]]
def zFd (c k : Nat) : Option (Nat × Bool) := (zFd_all[c]?).bind (fun r => r[k]?)
def zFc (c k : Nat) : Nat := ((zFd c k).map Prod.fst).getD 0
def zTy (c : Nat) : Nat → FieldType := match c with
  | 0 => tyX0
  | 1 => tyX1
  | 2 => tyX2
  | 3 => tyX3
  | 4 => tyX4
  | 5 => tyX5
  | 6 => tyX6
  | 7 => tyX7
  | 8 => tyX8
  | 9 => tyX9
  | 10 => tyX10
  | 11 => tyX11
  | _ => tyX12
/-- what the kit wants of a class -/
def zCk (c : Nat) : Prop := ∃ (C : String) (T : u_T) (N : Nat), vwCl[c]? = some (C, T, N) ∧ C = zRN c ∧ N = zNf c ∧ (∀ k, T k = zT c k) ∧ (∀ w ∈ u_ws C T N, w ∈ lw_tbl) ∧ (∀ k, k < N → parseFieldDescriptor (T k).2.2.1 = some (zTy c k)) ∧ (∀ a, a < N → ∀ b, b < N → a ≠ b → (T a).2.1 ≠ (T b).2.1) ∧ (∀ k, k < N → (T k).1 = C) ∧ (∀ k, k < N → (T k).2.2.2 = (((zFd c k).map Prod.snd).getD false)) ∧ Cond.instantiable C N ∈ lw_tbl ∧ Cond.initialized C ∈ lw_tbl ∧ (∀ k, k < N → match zFc c k with | 0 => zTy c k = .int | 1 => zTy c k = .long | 2 => (∃ t, zTy c k = .object t) ∨ (∃ t, zTy c k = .array t) | _ => zTy c k = .boolean)
theorem zin_0 : ∀ w ∈ wsX00, w ∈ lw_tbl := by decide +kernel
theorem zty_0 : ∀ k, k < 4 → match zFc 0 k with | 0 => zTy 0 k = .int | 1 => zTy 0 k = .long | 2 => (∃ t, zTy 0 k = .object t) ∨ (∃ t, zTy 0 k = .array t) | _ => zTy 0 k = .boolean := by
  intro k hk
  match k, hk with
  | 0, _ => exact Or.inl ⟨_, rfl⟩
  | 1, _ => exact rfl
  | 2, _ => exact rfl
  | 3, _ => exact rfl
  | n + 4, hk => exact absurd hk (by omega)
theorem zCk_0 : zCk 0 := ⟨RX0, TX0, 4, rfl, rfl, rfl, fun _ => rfl, zin_0, tyX0_ok, nmX0, by decide +kernel, by decide +kernel, List.mem_of_getElem? (i := 164) (by decide +kernel), zIni_0, zty_0⟩
theorem zin_1 : ∀ w ∈ wsX10, w ∈ lw_tbl := by decide +kernel
theorem zty_1 : ∀ k, k < 3 → match zFc 1 k with | 0 => zTy 1 k = .int | 1 => zTy 1 k = .long | 2 => (∃ t, zTy 1 k = .object t) ∨ (∃ t, zTy 1 k = .array t) | _ => zTy 1 k = .boolean := by
  intro k hk
  match k, hk with
  | 0, _ => exact Or.inl ⟨_, rfl⟩
  | 1, _ => exact Or.inl ⟨_, rfl⟩
  | 2, _ => exact rfl
  | n + 3, hk => exact absurd hk (by omega)
theorem zCk_1 : zCk 1 := ⟨RX1, TX1, 3, rfl, rfl, rfl, fun _ => rfl, zin_1, tyX1_ok, nmX1, by decide +kernel, by decide +kernel, List.mem_of_getElem? (i := 194) (by decide +kernel), zIni_1, zty_1⟩
theorem zin_2 : ∀ w ∈ wsX20, w ∈ lw_tbl := by decide +kernel
theorem zty_2 : ∀ k, k < 9 → match zFc 2 k with | 0 => zTy 2 k = .int | 1 => zTy 2 k = .long | 2 => (∃ t, zTy 2 k = .object t) ∨ (∃ t, zTy 2 k = .array t) | _ => zTy 2 k = .boolean := by
  intro k hk
  match k, hk with
  | 0, _ => exact Or.inl ⟨_, rfl⟩
  | 1, _ => exact Or.inl ⟨_, rfl⟩
  | 2, _ => exact Or.inl ⟨_, rfl⟩
  | 3, _ => exact Or.inl ⟨_, rfl⟩
  | 4, _ => exact Or.inl ⟨_, rfl⟩
  | 5, _ => exact Or.inl ⟨_, rfl⟩
  | 6, _ => exact Or.inl ⟨_, rfl⟩
  | 7, _ => exact Or.inl ⟨_, rfl⟩
  | 8, _ => exact rfl
  | n + 9, hk => exact absurd hk (by omega)
theorem zCk_2 : zCk 2 := ⟨RX2, TX2, 9, rfl, rfl, rfl, fun _ => rfl, zin_2, tyX2_ok, nmX2, by decide +kernel, by decide +kernel, List.mem_of_getElem? (i := 400) (by decide +kernel), zIni_2, zty_2⟩
theorem zin_3 : ∀ w ∈ wsX30, w ∈ lw_tbl := by decide +kernel
theorem zty_3 : ∀ k, k < 5 → match zFc 3 k with | 0 => zTy 3 k = .int | 1 => zTy 3 k = .long | 2 => (∃ t, zTy 3 k = .object t) ∨ (∃ t, zTy 3 k = .array t) | _ => zTy 3 k = .boolean := by
  intro k hk
  match k, hk with
  | 0, _ => exact Or.inl ⟨_, rfl⟩
  | 1, _ => exact Or.inl ⟨_, rfl⟩
  | 2, _ => exact Or.inr ⟨_, rfl⟩
  | 3, _ => exact Or.inl ⟨_, rfl⟩
  | 4, _ => exact Or.inl ⟨_, rfl⟩
  | n + 5, hk => exact absurd hk (by omega)
theorem zCk_3 : zCk 3 := ⟨RX3, TX3, 5, rfl, rfl, rfl, fun _ => rfl, zin_3, tyX3_ok, nmX3, by decide +kernel, by decide +kernel, List.mem_of_getElem? (i := 374) (by decide +kernel), zIni_3, zty_3⟩
theorem zin_4 : ∀ w ∈ wsX40, w ∈ lw_tbl := by decide +kernel
theorem zty_4 : ∀ k, k < 3 → match zFc 4 k with | 0 => zTy 4 k = .int | 1 => zTy 4 k = .long | 2 => (∃ t, zTy 4 k = .object t) ∨ (∃ t, zTy 4 k = .array t) | _ => zTy 4 k = .boolean := by
  intro k hk
  match k, hk with
  | 0, _ => exact Or.inl ⟨_, rfl⟩
  | 1, _ => exact Or.inl ⟨_, rfl⟩
  | 2, _ => exact rfl
  | n + 3, hk => exact absurd hk (by omega)
theorem zCk_4 : zCk 4 := ⟨RX4, TX4, 3, rfl, rfl, rfl, fun _ => rfl, zin_4, tyX4_ok, nmX4, by decide +kernel, by decide +kernel, List.mem_of_getElem? (i := 218) (by decide +kernel), zIni_4, zty_4⟩
theorem zin_5 : ∀ w ∈ wsX50, w ∈ lw_tbl := by decide +kernel
theorem zty_5 : ∀ k, k < 2 → match zFc 5 k with | 0 => zTy 5 k = .int | 1 => zTy 5 k = .long | 2 => (∃ t, zTy 5 k = .object t) ∨ (∃ t, zTy 5 k = .array t) | _ => zTy 5 k = .boolean := by
  intro k hk
  match k, hk with
  | 0, _ => exact Or.inl ⟨_, rfl⟩
  | 1, _ => exact Or.inl ⟨_, rfl⟩
  | n + 2, hk => exact absurd hk (by omega)
theorem zCk_5 : zCk 5 := ⟨RX5, TX5, 2, rfl, rfl, rfl, fun _ => rfl, zin_5, tyX5_ok, nmX5, by decide +kernel, by decide +kernel, List.mem_of_getElem? (i := 212) (by decide +kernel), zIni_5, zty_5⟩
theorem zin_6 : ∀ w ∈ wsX60, w ∈ lw_tbl := by decide +kernel
theorem zty_6 : ∀ k, k < 7 → match zFc 6 k with | 0 => zTy 6 k = .int | 1 => zTy 6 k = .long | 2 => (∃ t, zTy 6 k = .object t) ∨ (∃ t, zTy 6 k = .array t) | _ => zTy 6 k = .boolean := by
  intro k hk
  match k, hk with
  | 0, _ => exact Or.inr ⟨_, rfl⟩
  | 1, _ => exact Or.inl ⟨_, rfl⟩
  | 2, _ => exact Or.inl ⟨_, rfl⟩
  | 3, _ => exact Or.inl ⟨_, rfl⟩
  | 4, _ => exact rfl
  | 5, _ => exact rfl
  | 6, _ => exact rfl
  | n + 7, hk => exact absurd hk (by omega)
theorem zCk_6 : zCk 6 := ⟨RX6, TX6, 7, rfl, rfl, rfl, fun _ => rfl, zin_6, tyX6_ok, nmX6, by decide +kernel, by decide +kernel, List.mem_of_getElem? (i := 317) (by decide +kernel), zIni_6, zty_6⟩
theorem zin_7 : ∀ w ∈ wsX70, w ∈ lw_tbl := by decide +kernel
theorem zty_7 : ∀ k, k < 1 → match zFc 7 k with | 0 => zTy 7 k = .int | 1 => zTy 7 k = .long | 2 => (∃ t, zTy 7 k = .object t) ∨ (∃ t, zTy 7 k = .array t) | _ => zTy 7 k = .boolean := by
  intro k hk
  match k, hk with
  | 0, _ => exact Or.inr ⟨_, rfl⟩
  | n + 1, hk => exact absurd hk (by omega)
theorem zCk_7 : zCk 7 := ⟨RX7, TX7, 1, rfl, rfl, rfl, fun _ => rfl, zin_7, tyX7_ok, nmX7, by decide +kernel, by decide +kernel, List.mem_of_getElem? (i := 170) (by decide +kernel), zIni_7, zty_7⟩
theorem zin_8 : ∀ w ∈ wsX80, w ∈ lw_tbl := by decide +kernel
theorem zty_8 : ∀ k, k < 11 → match zFc 8 k with | 0 => zTy 8 k = .int | 1 => zTy 8 k = .long | 2 => (∃ t, zTy 8 k = .object t) ∨ (∃ t, zTy 8 k = .array t) | _ => zTy 8 k = .boolean := by
  intro k hk
  match k, hk with
  | 0, _ => exact Or.inl ⟨_, rfl⟩
  | 1, _ => exact Or.inl ⟨_, rfl⟩
  | 2, _ => exact Or.inl ⟨_, rfl⟩
  | 3, _ => exact Or.inl ⟨_, rfl⟩
  | 4, _ => exact rfl
  | 5, _ => exact rfl
  | 6, _ => exact rfl
  | 7, _ => exact rfl
  | 8, _ => exact rfl
  | 9, _ => exact rfl
  | 10, _ => exact rfl
  | n + 11, hk => exact absurd hk (by omega)
theorem zCk_8 : zCk 8 := ⟨RX8, TX8, 11, rfl, rfl, rfl, fun _ => rfl, zin_8, tyX8_ok, nmX8, by decide +kernel, by decide +kernel, List.mem_of_getElem? (i := 248) (by decide +kernel), zIni_8, zty_8⟩
theorem zin_9 : ∀ w ∈ wsX90, w ∈ lw_tbl := by decide +kernel
theorem zty_9 : ∀ k, k < 3 → match zFc 9 k with | 0 => zTy 9 k = .int | 1 => zTy 9 k = .long | 2 => (∃ t, zTy 9 k = .object t) ∨ (∃ t, zTy 9 k = .array t) | _ => zTy 9 k = .boolean := by
  intro k hk
  match k, hk with
  | 0, _ => exact Or.inr ⟨_, rfl⟩
  | 1, _ => exact rfl
  | 2, _ => exact rfl
  | n + 3, hk => exact absurd hk (by omega)
theorem zCk_9 : zCk 9 := ⟨RX9, TX9, 3, rfl, rfl, rfl, fun _ => rfl, zin_9, tyX9_ok, nmX9, by decide +kernel, by decide +kernel, List.mem_of_getElem? (i := 147) (by decide +kernel), zIni_9, zty_9⟩
theorem zin_10 : ∀ w ∈ wsX100, w ∈ lw_tbl := by decide +kernel
theorem zty_10 : ∀ k, k < 5 → match zFc 10 k with | 0 => zTy 10 k = .int | 1 => zTy 10 k = .long | 2 => (∃ t, zTy 10 k = .object t) ∨ (∃ t, zTy 10 k = .array t) | _ => zTy 10 k = .boolean := by
  intro k hk
  match k, hk with
  | 0, _ => exact Or.inl ⟨_, rfl⟩
  | 1, _ => exact Or.inl ⟨_, rfl⟩
  | 2, _ => exact Or.inl ⟨_, rfl⟩
  | 3, _ => exact Or.inl ⟨_, rfl⟩
  | 4, _ => exact Or.inl ⟨_, rfl⟩
  | n + 5, hk => exact absurd hk (by omega)
theorem zCk_10 : zCk 10 := ⟨RX10, TX10, 5, rfl, rfl, rfl, fun _ => rfl, zin_10, tyX10_ok, nmX10, by decide +kernel, by decide +kernel, List.mem_of_getElem? (i := 350) (by decide +kernel), zIni_10, zty_10⟩
theorem zin_11 : ∀ w ∈ wsX110, w ∈ lw_tbl := by decide +kernel
theorem zty_11 : ∀ k, k < 15 → match zFc 11 k with | 0 => zTy 11 k = .int | 1 => zTy 11 k = .long | 2 => (∃ t, zTy 11 k = .object t) ∨ (∃ t, zTy 11 k = .array t) | _ => zTy 11 k = .boolean := by
  intro k hk
  match k, hk with
  | 0, _ => exact Or.inl ⟨_, rfl⟩
  | 1, _ => exact Or.inl ⟨_, rfl⟩
  | 2, _ => exact Or.inl ⟨_, rfl⟩
  | 3, _ => exact Or.inl ⟨_, rfl⟩
  | 4, _ => exact Or.inr ⟨_, rfl⟩
  | 5, _ => exact Or.inl ⟨_, rfl⟩
  | 6, _ => exact Or.inl ⟨_, rfl⟩
  | 7, _ => exact Or.inl ⟨_, rfl⟩
  | 8, _ => exact Or.inl ⟨_, rfl⟩
  | 9, _ => exact Or.inl ⟨_, rfl⟩
  | 10, _ => exact Or.inl ⟨_, rfl⟩
  | 11, _ => exact rfl
  | 12, _ => exact rfl
  | 13, _ => exact rfl
  | 14, _ => exact rfl
  | n + 15, hk => exact absurd hk (by omega)
theorem zCk_11 : zCk 11 := ⟨RX11, TX11, 15, rfl, rfl, rfl, fun _ => rfl, zin_11, tyX11_ok, nmX11, by decide +kernel, by decide +kernel, List.mem_of_getElem? (i := 139) (by decide +kernel), zIni_11, zty_11⟩
theorem zin_12 : ∀ w ∈ wsX120, w ∈ lw_tbl := by decide +kernel
theorem zty_12 : ∀ k, k < 48 → match zFc 12 k with | 0 => zTy 12 k = .int | 1 => zTy 12 k = .long | 2 => (∃ t, zTy 12 k = .object t) ∨ (∃ t, zTy 12 k = .array t) | _ => zTy 12 k = .boolean := by
  intro k hk
  match k, hk with
  | 0, _ => exact rfl
  | 1, _ => exact Or.inr ⟨_, rfl⟩
  | 2, _ => exact rfl
  | 3, _ => exact rfl
  | 4, _ => exact rfl
  | 5, _ => exact rfl
  | 6, _ => exact Or.inr ⟨_, rfl⟩
  | 7, _ => exact Or.inr ⟨_, rfl⟩
  | 8, _ => exact Or.inr ⟨_, rfl⟩
  | 9, _ => exact Or.inr ⟨_, rfl⟩
  | 10, _ => exact Or.inr ⟨_, rfl⟩
  | 11, _ => exact Or.inr ⟨_, rfl⟩
  | 12, _ => exact Or.inr ⟨_, rfl⟩
  | 13, _ => exact rfl
  | 14, _ => exact rfl
  | 15, _ => exact Or.inr ⟨_, rfl⟩
  | 16, _ => exact Or.inr ⟨_, rfl⟩
  | 17, _ => exact Or.inr ⟨_, rfl⟩
  | 18, _ => exact Or.inr ⟨_, rfl⟩
  | 19, _ => exact Or.inr ⟨_, rfl⟩
  | 20, _ => exact rfl
  | 21, _ => exact rfl
  | 22, _ => exact Or.inr ⟨_, rfl⟩
  | 23, _ => exact Or.inr ⟨_, rfl⟩
  | 24, _ => exact Or.inr ⟨_, rfl⟩
  | 25, _ => exact rfl
  | 26, _ => exact rfl
  | 27, _ => exact rfl
  | 28, _ => exact Or.inr ⟨_, rfl⟩
  | 29, _ => exact Or.inr ⟨_, rfl⟩
  | 30, _ => exact rfl
  | 31, _ => exact rfl
  | 32, _ => exact Or.inr ⟨_, rfl⟩
  | 33, _ => exact Or.inr ⟨_, rfl⟩
  | 34, _ => exact Or.inr ⟨_, rfl⟩
  | 35, _ => exact rfl
  | 36, _ => exact rfl
  | 37, _ => exact Or.inr ⟨_, rfl⟩
  | 38, _ => exact rfl
  | 39, _ => exact rfl
  | 40, _ => exact Or.inr ⟨_, rfl⟩
  | 41, _ => exact Or.inr ⟨_, rfl⟩
  | 42, _ => exact Or.inr ⟨_, rfl⟩
  | 43, _ => exact rfl
  | 44, _ => exact rfl
  | 45, _ => exact rfl
  | 46, _ => exact Or.inr ⟨_, rfl⟩
  | 47, _ => exact rfl
  | n + 48, hk => exact absurd hk (by omega)
theorem zCk_12 : zCk 12 := ⟨RX12, TX12, 48, rfl, rfl, rfl, fun _ => rfl, zin_12, tyX12_ok, nmX12, by decide +kernel, by decide +kernel, List.mem_of_getElem? (i := 1477) (by decide +kernel), zIni_12, zty_12⟩
theorem zCk_ok {c : Nat} (h : c < 13) : zCk c := by
  match c, h with
  | 0, _ => exact zCk_0
  | 1, _ => exact zCk_1
  | 2, _ => exact zCk_2
  | 3, _ => exact zCk_3
  | 4, _ => exact zCk_4
  | 5, _ => exact zCk_5
  | 6, _ => exact zCk_6
  | 7, _ => exact zCk_7
  | 8, _ => exact zCk_8
  | 9, _ => exact zCk_9
  | 10, _ => exact zCk_10
  | 11, _ => exact zCk_11
  | 12, _ => exact zCk_12
  | n + 13, h => exact absurd h (by omega)
