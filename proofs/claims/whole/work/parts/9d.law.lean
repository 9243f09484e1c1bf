/-! The law: its instructions, its links. -/
/-- an instruction of the law -/
abbrev inT (q : Nat × Instr × Nat) : Prop := decode code q.1 = .ok (q.2.1, q.2.2)
theorem lawD {pc : Nat} {i : Instr} {n : Nat} (h : inT (pc, i, n)) : decode code pc = .ok (i, n) := h
def lawL : List (Nat × Nat × Nat × Nat) := [(13, 76, 484, 1), (17, 114, 1090, 1), (18, 77, 489, 0), (22, 115, 1097, 0), (23, 78, 493, 0), (26, 123, 1101, 0), (27, 79, 583, 2), (31, 136, 1149, 2), (32, 80, 587, 1), (35, 150, 1157, 1), (36, 81, 688, 0), (39, 137, 1153, 0), (40, 82, 696, 2), (43, 153, 1220, 2), (44, 83, 705, 1), (47, 154, 1228, 1), (48, 84, 709, 1), (51, 155, 1232, 1), (52, 85, 716, 2), (55, 156, 1236, 2), (56, 86, 732, 1), (59, 157, 1248, 1), (60, 87, 737, 0), (63, 169, 1252, 0), (64, 88, 813, 0), (67, 170, 1300, 0), (68, 89, 817, 1), (71, 171, 1304, 1), (72, 90, 821, 1), (75, 172, 1308, 1), (76, 91, 825, 1), (79, 173, 1312, 1), (80, 92, 829, 1), (83, 151, 1212, 1), (84, 93, 834, 1), (87, 152, 1216, 1), (88, 94, 838, 2), (91, 174, 1316, 2), (92, 95, 842, 0), (95, 175, 1320, 0), (96, 96, 846, 0), (99, 177, 1324, 0), (100, 97, 854, 1), (103, 178, 1332, 1), (104, 98, 860, 1), (107, 179, 1336, 1), (108, 99, 864, 1), (111, 180, 1340, 1), (112, 100, 876, 1), (115, 181, 1344, 1)]
def lchk (q : Nat × Nat × Nat × Nat) : Bool := decide (q.2.1 < mN) && decide (lw_tbl[q.2.2.1]? = some (Cond.methodLink "OneReturnsLaw" q.1 (mY q.2.1))) && !(mP q.2.1).2.2.2.2.1 && decide (q.2.2.2 = (mP q.2.1).2.2.2.2.2) && decide (q.2.2.2 + 1 ≤ mL q.2.1) && decide ((mRm q.2.1).frames + 1 ≤ 9) && decide (8 + (mL q.2.1 + 11) + (mRm q.2.1).locals ≤ 340)
set_option maxRecDepth 100000 in
theorem lchk_all : lawL.all lchk = true := by decide +kernel
theorem lawK {idx k2 pl na : Nat} (h : (idx, k2, pl, na) ∈ lawL) : k2 < mN ∧ Cond.methodLink "OneReturnsLaw" idx (mY k2) ∈ gw ∧ (mP k2).2.2.2.2.1 = false ∧ na = (mP k2).2.2.2.2.2 ∧ na + 1 ≤ mL k2 ∧ (mRm k2).frames + 1 ≤ 9 ∧ 8 + (mL k2 + 11) + (mRm k2).locals ≤ 340 := by
  have h1 := List.all_eq_true.mp lchk_all _ h
  unfold lchk at h1
  simp only [Bool.and_eq_true, decide_eq_true_eq, Bool.not_eq_true'] at h1
  obtain ⟨⟨⟨⟨⟨⟨g1, g2⟩, g3⟩, g4⟩, g5⟩, g6⟩, g7⟩ := h1
  exact ⟨g1, gw_of (List.mem_of_getElem? g2) rfl, g3, g4, g5, g6, g7⟩
set_option maxRecDepth 100000 in
theorem lawN : Cond.classLink "OneReturnsLaw" 7 (kY 7).cls ∈ gw ∧ Cond.classLink "OneReturnsLaw" 10 (kY 8).cls ∈ gw ∧ Cond.methodLink "OneReturnsLaw" 9 (kY 7) ∈ gw ∧ Cond.methodLink "OneReturnsLaw" 12 (kY 8) ∈ gw :=
  ⟨gw_of (List.mem_of_getElem? (i := 98) rfl) rfl, gw_of (List.mem_of_getElem? (i := 880) rfl) rfl, gw_of (List.mem_of_getElem? (i := 100) rfl) rfl, gw_of (List.mem_of_getElem? (i := 882) rfl) rfl⟩
