/-! The law's steps. -/
def L3 (i : Nat) : List (Nat × AV) := [(1, .inr (some 0)), (2, .inr (some 77)), (3, .inl (i : Int))]
def LW (X : Kx) (b Ln : Nat) (xs : Nat → Int32) : Prop := KC X "OneReturnsLaw" code ∧ X.E = [(0, .ref b)] ∧ va_X b Ln xs X.s X.s.heap ∧ b < X.s.heap.size ∧ ¬ X.A b ∧ Ln ≤ 1536 ∧ X.R = room_1 ∧ X.nL = 4
theorem FM_all : FAll 111 FM := by
  have hc := chkM
  cases hr : resM with
  | none => rw [hr] at hc; cases hc
  | some r =>
    rw [hr] at hc
    have hFM : FM = r.2.2.2.2.1 := by unfold FM; rw [hr]
    unfold okM at hc
    simp only [Bool.and_eq_true] at hc
    rw [hFM]
    exact fullF_spec hc.1.1.1.2
section Law
variable {X : Kx} {b Ln : Nat} {xs : Nat → Int32} {cells slots pc n i : Nat} {L : List (Nat × AV)} {st : List AV} {F : Fl} {I : Mem}
theorem at0 (C : LW X b Ln xs) {ls : Array Slot} {L' : List (Nat × Value)} (hl : lv_has ls X.nL (X.E ++ L')) : ls[0]? = some (.val (.ref b)) :=
  hl.2.2 (0, .ref b) (List.mem_append_left _ (by rw [C.2.1]; exact List.mem_singleton.mpr rfl))
theorem K_scr (C : LW X b Ln xs) {k : Nat} (hk : i + k < Ln) (hk1 : k = 1 ∨ k = 2) (d0 : inT (pc, .aload_n 0, 1)) (d1 : inT (pc + 1, .iload_n 3, 1)) (d2 : inT (pc + 2, .iconst (k : Int), 1)) (d3 : inT (pc + 3, .iadd, 1)) (d4 : inT (pc + 4, .iaload, 1))
    (h : KW X cells slots (pc + 5) (L3 i) (.inl (xs (i + k)).toInt :: st) n F I) : KW X cells slots pc (L3 i) st n F I := by
  intro ad H locs ls hM ha hl oL oS
  have hLn := C.2.2.2.2.2.1
  have h1 := h ad H locs ls hM ha hl oL (List.forall_mem_cons.mpr ⟨inR_toInt _, oS⟩)
  refine lv_aload_n C.1.1.1 C.1.1.2.1 (lawD d0) rfl (at0 C hl) ?_
  refine lv_iload_n (x := Int32.ofInt (i : Int)) C.1.1.1 C.1.1.2.1 (lawD d1) rfl (lget_atE (v := .inl (i : Int)) rfl hl) ?_
  refine lv_iconst (v := Int32.ofInt (k : Int)) C.1.1.1 C.1.1.2.1 (lawD d2) rfl ?_
  refine lv_iadd C.1.1.1 C.1.1.2.1 (lawD d3) ?_
  have e : Int32.ofInt (i : Int) + Int32.ofInt (k : Int) = Int32.ofInt ((i + k : Nat) : Int) := by
    rw [wadd, wrap_of (by omega) (by omega), Int.natCast_add]
  rw [e]
  have oi : inR ((i + k : Nat) : Int) := ⟨by omega, by omega⟩
  refine va_sld C.1.1.1 C.1.1.2.1 C.2.2.1 C.2.2.2.1 C.2.2.2.2.1 hM.2.2.1 (vpin oi (by omega) (by omega)) (lawD d4) ?_
  rw [clampN oi (by omega), toNat_c, ← ofToInt (xs (i + k))]
  rw [ofToInt]
  have e2 : (Sum.inl (xs (i + k)).toInt :: st : List AV).map (cv ad) = .int (xs (i + k)) :: st.map (cv ad) := by
    show Value.int (Int32.ofInt (xs (i + k)).toInt) :: st.map (cv ad) = _
    rw [ofToInt]
  rw [e2] at h1
  exact h1
theorem K_scr0 (C : LW X b Ln xs) (hk : i < Ln) (d0 : inT (pc, .aload_n 0, 1)) (d1 : inT (pc + 1, .iload_n 3, 1)) (d4 : inT (pc + 2, .iaload, 1))
    (h : KW X cells slots (pc + 3) (L3 i) (.inl (xs i).toInt :: st) n F I) : KW X cells slots pc (L3 i) st n F I := by
  intro ad H locs ls hM ha hl oL oS
  have hLn := C.2.2.2.2.2.1
  have h1 := h ad H locs ls hM ha hl oL (List.forall_mem_cons.mpr ⟨inR_toInt _, oS⟩)
  refine lv_aload_n C.1.1.1 C.1.1.2.1 (lawD d0) rfl (at0 C hl) ?_
  refine lv_iload_n (x := Int32.ofInt (i : Int)) C.1.1.1 C.1.1.2.1 (lawD d1) rfl (lget_atE (v := .inl (i : Int)) rfl hl) ?_
  have oi : inR ((i : Nat) : Int) := ⟨by omega, by omega⟩
  refine va_sld C.1.1.1 C.1.1.2.1 C.2.2.1 C.2.2.2.1 C.2.2.2.2.1 hM.2.2.1 (vpin oi (by omega) (by omega)) (lawD d4) ?_
  rw [clampN oi (by omega), toNat_c]
  have e2 : (Sum.inl (xs i).toInt :: st : List AV).map (cv ad) = .int (xs i) :: st.map (cv ad) := by
    show Value.int (Int32.ofInt (xs i).toInt) :: st.map (cv ad) = _
    rw [ofToInt]
  rw [e2] at h1
  exact h1
theorem K_len (C : LW X b Ln xs) (d0 : inT (pc, .aload_n 0, 1)) (d1 : inT (pc + 1, .arraylength, 1)) (h : KW X cells slots (pc + 2) (L3 i) (.inl (Ln : Int) :: st) n F I) : KW X cells slots pc (L3 i) st n F I := by
  intro ad H locs ls hM ha hl oL oS
  have hLn := C.2.2.2.2.2.1
  have h1 := h ad H locs ls hM ha hl oL (List.forall_mem_cons.mpr ⟨⟨by omega, by omega⟩, oS⟩)
  refine lv_aload_n C.1.1.1 C.1.1.2.1 (lawD d0) rfl (at0 C hl) ?_
  refine va_slen C.1.1.1 C.1.1.2.1 C.2.2.1 C.2.2.2.1 C.2.2.2.2.1 hM.2.2.1 (lawD d1) ?_
  exact h1
theorem K_isub {u v : Int} {own : String} {cc : ByteArray} (C : KC X own cc) (hd : decode cc pc = .ok (.isub, 1)) (h : KW X cells slots (pc + 1) L (.inl (wrap (u - v)) :: st) n F I) : KW X cells slots pc L (.inl v :: .inl u :: st) n F I := by
  intro ad H locs ls hM ha hl oL oS
  have h2 := h ad H locs ls hM ha hl oL (List.forall_mem_cons.mpr ⟨inR_wrap _, (List.forall_mem_cons.mp (List.forall_mem_cons.mp oS).2).2⟩)
  refine lv_isub C.1.1 C.1.2.1 hd ?_
  rw [wsub]
  exact h2
theorem K_iand {u v : Int} {own : String} {cc : ByteArray} (C : KC X own cc) (hd : decode cc pc = .ok (.iand, 1)) (h : KW X cells slots (pc + 1) L (.inl (iand u v) :: st) n F I) : KW X cells slots pc L (.inl v :: .inl u :: st) n F I := by
  intro ad H locs ls hM ha hl oL oS
  have h2 := h ad H locs ls hM ha hl oL (List.forall_mem_cons.mpr ⟨inR_toInt _, (List.forall_mem_cons.mp (List.forall_mem_cons.mp oS).2).2⟩)
  refine lv_iand C.1.1 C.1.2.1 hd ?_
  rw [← ofToInt (Int32.ofInt u &&& Int32.ofInt v)]
  exact h2
theorem K_gt {u v off : Int} {tgt : Nat} {own : String} {cc : ByteArray} (C : KC X own cc) (hd : decode cc pc = .ok (.if_icmp .gt off, 3)) (ht : (pc : Int) + off = (tgt : Int)) (h1 : v < u → KW X cells slots tgt L st n F I) (h2 : ¬ v < u → KW X cells slots (pc + 3) L st n F I) : KW X cells slots pc L (.inl v :: .inl u :: st) n F I := by
  intro ad H locs ls hM ha hl oL oS
  obtain ⟨ob, oS⟩ := List.forall_mem_cons.mp oS
  obtain ⟨oa, oS⟩ := List.forall_mem_cons.mp oS
  have ob : inR v := ob
  have oa : inR u := oa
  exact lv_icmp_gt C.1.1 C.1.2.1 hd ht (fun hc => h1 ((ofInt_lt ob oa).mp hc) ad H locs ls hM ha hl oL oS) (fun hc => h2 (fun q => hc ((ofInt_lt ob oa).mpr q)) ad H locs ls hM ha hl oL oS)
theorem K_eq {v off : Int} {tgt : Nat} {own : String} {cc : ByteArray} (C : KC X own cc) (hd : decode cc pc = .ok (.if_icmp .eq off, 3)) (ht : (pc : Int) + off = (tgt : Int)) (h1 : KW X cells slots tgt L st n F I) : KW X cells slots pc L (.inl v :: .inl v :: st) n F I := by
  intro ad H locs ls hM ha hl oL oS
  obtain ⟨ob, oS⟩ := List.forall_mem_cons.mp oS
  obtain ⟨oa, oS⟩ := List.forall_mem_cons.mp oS
  exact lv_icmp_eq C.1.1 C.1.2.1 hd ht (fun _ => h1 ad H locs ls hM ha hl oL oS) (fun z => absurd rfl z)
/-- a call of the class (local 1) or of the model (local 2) -/
def lcOk (lc : Fin 4) (id : Nat) : Prop := (lc = 1 ∧ id = 0) ∨ (lc = 2 ∧ id = 77)
theorem lc_get {lc : Fin 4} {id : Nat} (h : lcOk lc id) : lget (L3 i) lc.val = some (.inr (some id)) := by
  rcases h with ⟨rfl, rfl⟩ | ⟨rfl, rfl⟩ <;> rfl
theorem room_fit (C : LW X b Ln xs) : 111 ≤ X.R.cells ∧ 7787 ≤ X.R.slots := by
  rw [C.2.2.2.2.2.2.1]
  exact ⟨Nat.le_of_ble_eq_true rfl, Nat.le_of_ble_eq_true rfl⟩
theorem seg_call (C : LW X b Ln xs) {idx k2 pl id : Nat} {as : List AV} (d1 : inT (pc, .invokevirtual idx, 3)) (hk : (idx, k2, pl, as.length) ∈ lawL) (hcl : ∃ r, vwCl[kd id]? = some r ∧ r.1 = (mY k2).cls) (h8 : st.length ≤ 8) {Q2 : Post} (hR : R k2 0 (enumL 0 (.inr (some id) :: as)) [] I Q2)
    (h : ∀ r I', Q2 r I' → KW X 111 7787 (pc + 3) L (r.toList ++ st) 111 FM I') : KW X 111 7787 pc L (as.reverse ++ .inr (some id) :: st) 111 FM I := by
  obtain ⟨g1, g2, g3, g4, g5, g6, g7⟩ := lawK hk
  exact K_methL C.1 (lawD d1) g1 g2 g3 g4 g5 hcl (by rw [C.2.2.2.2.2.2.1]; exact ⟨g6, g7⟩) h8 (Or.inr rfl) FM_all (room_fit C) hR h
theorem seg0 (C : LW X b Ln xs) {idx k2 pl id : Nat} {lc : Fin 4} (hlc : lcOk lc id) (hd : ∀ q ∈ [(pc, .aload_n lc, 1), (pc + 1, Instr.invokevirtual idx, 3)], inT q) (hk : (idx, k2, pl, 0) ∈ lawL) (hcl : ∃ r, vwCl[kd id]? = some r ∧ r.1 = (mY k2).cls) (h8 : st.length ≤ 8) {Q2 : Post} (hR : R k2 0 [(0, .inr (some id))] [] I Q2)
    (h : ∀ r I', Q2 r I' → KW X 111 7787 (pc + 4) (L3 i) (r.toList ++ st) 111 FM I') : KW X 111 7787 pc (L3 i) st 111 FM I := by
  refine K_aload_n C.1 (lawD (hd _ List.mem_cons_self)) (lc_get hlc) ?_
  exact seg_call (as := []) C (hd _ (List.mem_cons_of_mem _ List.mem_cons_self)) hk hcl h8 hR h
theorem seg1 (C : LW X b Ln xs) (hi : i + 2 < Ln) {idx k2 pl id : Nat} {lc : Fin 4} (hlc : lcOk lc id) (hd : ∀ q ∈ [(pc, .aload_n lc, 1), (pc + 1, .aload_n 0, 1), (pc + 2, .iload_n 3, 1), (pc + 3, .iconst 1, 1), (pc + 4, .iadd, 1), (pc + 5, .iaload, 1), (pc + 6, Instr.invokevirtual idx, 3)], inT q) (hk : (idx, k2, pl, 1) ∈ lawL) (hcl : ∃ r, vwCl[kd id]? = some r ∧ r.1 = (mY k2).cls) (h8 : st.length ≤ 8) {Q2 : Post} (hR : R k2 0 [(0, .inr (some id)), (1, .inl (xs (i + 1)).toInt)] [] I Q2)
    (h : ∀ r I', Q2 r I' → KW X 111 7787 (pc + 9) (L3 i) (r.toList ++ st) 111 FM I') : KW X 111 7787 pc (L3 i) st 111 FM I := by
  refine K_aload_n C.1 (lawD (hd _ (by simp))) (lc_get hlc) ?_
  refine K_scr (k := 1) C (by omega) (Or.inl rfl) (hd _ (by simp)) (hd _ (by simp)) (hd _ (by simp)) (hd _ (by simp)) (hd _ (by simp)) ?_
  exact seg_call (pc := pc + 6) (as := [.inl (xs (i + 1)).toInt]) C (hd _ (by simp)) hk hcl h8 hR h
theorem seg2 (C : LW X b Ln xs) (hi : i + 2 < Ln) {idx k2 pl id : Nat} {lc : Fin 4} (hlc : lcOk lc id) (hd : ∀ q ∈ [(pc, .aload_n lc, 1), (pc + 1, .aload_n 0, 1), (pc + 2, .iload_n 3, 1), (pc + 3, .iconst 1, 1), (pc + 4, .iadd, 1), (pc + 5, .iaload, 1), (pc + 6, .aload_n 0, 1), (pc + 7, .iload_n 3, 1), (pc + 8, .iconst 2, 1), (pc + 9, .iadd, 1), (pc + 10, .iaload, 1), (pc + 11, Instr.invokevirtual idx, 3)], inT q) (hk : (idx, k2, pl, 2) ∈ lawL) (hcl : ∃ r, vwCl[kd id]? = some r ∧ r.1 = (mY k2).cls) (h8 : st.length ≤ 8) {Q2 : Post} (hR : R k2 0 [(0, .inr (some id)), (1, .inl (xs (i + 1)).toInt), (2, .inl (xs (i + 2)).toInt)] [] I Q2)
    (h : ∀ r I', Q2 r I' → KW X 111 7787 (pc + 14) (L3 i) (r.toList ++ st) 111 FM I') : KW X 111 7787 pc (L3 i) st 111 FM I := by
  refine K_aload_n C.1 (lawD (hd _ (by simp))) (lc_get hlc) ?_
  refine K_scr (k := 1) C (by omega) (Or.inl rfl) (hd _ (by simp)) (hd _ (by simp)) (hd _ (by simp)) (hd _ (by simp)) (hd _ (by simp)) ?_
  refine K_scr (pc := pc + 6) (k := 2) C (by omega) (Or.inr rfl) (hd _ (by simp)) (hd _ (by simp)) (hd _ (by simp)) (hd _ (by simp)) (hd _ (by simp)) ?_
  exact seg_call (pc := pc + 11) (as := [.inl (xs (i + 1)).toInt, .inl (xs (i + 2)).toInt]) C (hd _ (by simp)) hk hcl h8 hR h
end Law
