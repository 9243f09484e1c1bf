/-! Rules for making and filling objects. -/
theorem nchk_at {id : Nat} (h : id < N2) : nchk id = true := List.all_eq_true.mp nchk_all id (List.mem_range.mpr h)
section KHeap
variable {X : Kx} {own : String} {cc : ByteArray} {cells slots pc : Nat} {L : List (Nat × AV)} {st : List AV} {n : Nat} {F : Fl} {I : Mem}
theorem cellP_obj {D : Dw} {ad : Nat → Nat} {id : Nat} (h : kd id < 9) : cellP D ad F I id = .inr (kd id, (List.range (sz id)).map (slotP ad F I id)) := by
  unfold cellP
  rw [if_neg (by omega), if_neg (by omega), if_neg (by omega)]
/-- a new cell -/
theorem Mk.new {D : Dw} {ad : Nat → Nat} {A : Nat → Prop} {H0 H1 : Heap} {locs : List Loc} {q : Nat} (oI : okI I) (hF : FOK n F) (hP : va_P D.1 vwCl (wsP n D ad F I ++ [(q, cellP D ad F I n)]) H1) (hD : va_D A (wsP n D ad F I ++ [(q, cellP D ad F I n)])) (hS : va_S A H0 H1 locs) : Mk D (up1 ad n q) (n + 1) F I A H0 H1 locs :=
  ⟨by rw [wsP_new hF]; exact hP, by rw [wsP_new hF]; exact hD, hS, hF.up (Nat.le_succ n), oI⟩
theorem up1_lt {ad : Nat → Nat} {q : Nat} : ∀ i, i < n → up1 ad n q i = ad i := fun i hi => by unfold up1; rw [if_neg (by omega)]
/-- behind the making of a cell -/
theorem KW.made {ad : Nat → Nat} {H1 : Heap} {locs : List Loc} {ls : Array Slot} {q c1 s1 pc1 : Nat} (hn0 : X.n0 ≤ n) (h : KW X c1 s1 pc1 L (.inr (some n) :: st) (n + 1) F I) (hM : Mk X.D (up1 ad n q) (n + 1) F I X.A X.s.heap H1 locs) (ha : ∀ i, i < X.n0 → ad i = X.ad0 i) (hl : lv_has ls X.nL (X.E ++ cvL ad L)) (oL : ∀ q ∈ L, okv n q.2) (oS : ∀ v ∈ st, okv n v) :
    W X.p X.l X.e X.R X.s X.m X.args X.below X.meth X.c H1 locs c1 s1 X.Qw (F0 X.m pc1 ls (.ref q :: st.map (cv ad))) := by
  have h1 := h (up1 ad n q) H1 locs ls hM (fun i hi => by rw [up1_lt i (by omega)]; exact ha i hi) (by rw [cvL_ad up1_lt oL]; exact hl) (fun q hq => okv_up (Nat.le_succ n) (oL q hq)) (List.forall_mem_cons.mpr ⟨Nat.lt_succ_self n, fun v hv => okv_up (Nat.le_succ n) (oS v hv)⟩)
  rw [List.map_cons, cvS_ad up1_lt oS] at h1
  have e : cv (up1 ad n q) (.inr (some n)) = Value.ref q := by show Value.ref (up1 ad n q n) = _; unfold up1; rw [if_pos rfl]
  rw [e] at h1
  exact h1
theorem K_new {idx : Nat} (C : KC X own cc) (hd : decode cc pc = .ok (.new idx, 3)) (hj : kd n < 9) (hn2 : n < N2) (hlink : Cond.classLink own idx (kY (kd n)).cls ∈ gw) (hn0 : X.n0 ≤ n) (hI : ∀ k, I n k = 0) (hFn : ∀ k, inF F n k = false) (hc : cells + 1 ≤ X.R.cells) (hs : slots + sz n ≤ X.R.slots)
    (h : KW X (cells + 1) (slots + sz n) (pc + 3) L (.inr (some n) :: st) (n + 1) F I) : KW X cells slots pc L st n F I := by
  intro ad H locs ls ⟨hP, hD, hS, hF, oI⟩ ha hl oL oS
  have hts := C.1.2.2.2.2.1
  obtain ⟨r, hr1, hr2, hr3⟩ := (kok hj).2.2.1
  have h1 := nchk_at hn2
  unfold nchk at h1
  rw [hr1] at h1
  simp only [Bool.and_eq_true, decide_eq_true_eq] at h1
  obtain ⟨h2, h3⟩ := h1
  rw [← hr2] at hlink
  have hini := (kok hj).2.1
  rw [← hr2] at hini
  rw [h2] at hs h
  refine va_new (ci := kd n) (fs := (List.range (sz n)).map (slotP ad F I n)) (C := r.1) (T := r.2.1) (N := r.2.2) C.1.1 C.1.2.1 hts (cl_ok _ _ hr1).1 (tyOf (kd n)) (cl_ok _ _ hr1).2.1 C.1.2.2.2.1 (hts _ hlink) (hts _ hr3) (hts _ hini) C.1.2.2.2.2.2.1 hP hD hS C.2 hr1 (fun j hj2 => ?_) hc hs hd (fun q H1 hP1 hD1 hS1 => ?_)
  · have hjs : j < sz n := by omega
    have h4 := List.all_eq_true.mp h3 j (List.mem_range.mpr hjs)
    unfold vp_V
    rw [List.getD_eq_getElem?_getD, List.getElem?_map, List.getElem?_range hjs]
    show defaultValue (tyOf (kd n) j) = slotP ad F I n j
    unfold slotP
    cases hrf : rf n j with
    | none =>
      rw [hrf] at h4
      simp only [decide_eq_true_eq] at h4
      dsimp only
      rw [hI]
      rcases h4 with h4 | h4 <;> rw [h4] <;> rfl
    | some r0 =>
      rw [hrf] at h4
      dsimp only at h4 ⊢
      rw [hFn, if_neg (by decide)]
      cases ht : tyOf (kd n) j with
      | object _ => rfl
      | array _ => rfl
      | _ => rw [ht] at h4; cases h4
  · have e : (Sum.inr (kd n, (List.range (sz n)).map (slotP ad F I n)) : va_E) = cellP X.D ad F I n := (cellP_obj hj).symm
    rw [e] at hP1 hD1
    exact KW.made hn0 h (Mk.new oI hF hP1 hD1 hS1) ha hl oL oS
theorem va_RA_int {s : State} {a b : ClassId} (h1 : va_RA s a .int) (h2 : va_RA s b .int) : a = b := Option.some.inj (Eq.trans (Eq.symm h1) h2)
theorem va_RA_bool {s : State} {a b : ClassId} (h1 : va_RA s a .boolean) (h2 : va_RA s b .boolean) : a = b := Option.some.inj (Eq.trans (Eq.symm h1) h2)
theorem va_RA_obj {s : State} {a b : ClassId} {C : String} (h1 : va_RA s a (.object C)) (h2 : va_RA s b (.object C)) : a = b := by
  obtain ⟨_, _, _, _, _, g1⟩ := h1
  obtain ⟨_, _, _, _, _, g2⟩ := h2
  exact Option.some.inj (g1.symm.trans g2)
theorem K_newI {v : Int} (C : KC X own cc) (hd : decode cc pc = .ok (.newarray .int, 2)) (hk : kd n = 20) (hv : (v : Int) = (sz n : Int)) (hsm : sz n ≤ 1000) (hn0 : X.n0 ≤ n) (hI : ∀ k, I n k = 0) (hc : cells + 1 ≤ X.R.cells) (hs : slots + sz n ≤ X.R.slots)
    (h : KW X (cells + 1) (slots + sz n) (pc + 2) L (.inr (some n) :: st) (n + 1) F I) : KW X cells slots pc L (.inl v :: st) n F I := by
  intro ad H locs ls ⟨hP, hD, hS, hF, oI⟩ ha hl oL oS
  obtain ⟨ov, oS⟩ := List.forall_mem_cons.mp oS
  have ov : inR v := ov
  have hts := C.1.2.2.2.2.1
  have hK := C.1.2.2.2.2.2.1
  refine va_newa (atype := .int) (ty := .int) (a0 := (sz n, .inl (fun j => Int32.ofInt (I n j)))) (N' := sz n) C.1.1 C.1.2.1 (hts _ kwords.1) rfl hK hP hD hS C.2 (fun cA => ?_) (fun q => ?_) ?_ ?_ hc hs hd (fun q cA H1 hK1 hP1 hD1 hS1 => ?_)
  · rw [vp_cell_i]
    congr 1
    funext j
    rw [hI]
    rfl
  · have := (ofInt_lt ov inR_0).mp q
    omega
  · rw [clampN ov (by omega)]; omega
  · show sz n * 4 ≤ 536870912
    omega
  · have e1 : cA = X.D.2.1 := va_RA_int ((hK1.2 3 (cA, .int) rfl).2) ((hK.2 0 _ rfl).2)
    have e : (Sum.inl (cA, sz n, .inl (fun j => Int32.ofInt (I n j))) : va_E) = cellP X.D ad F I n := by unfold cellP; rw [if_pos hk, e1]
    rw [e] at hP1 hD1
    exact KW.made hn0 h (Mk.new oI hF hP1 hD1 hS1) ha hl oL oS
theorem K_newZ {v : Int} (C : KC X own cc) (hd : decode cc pc = .ok (.newarray .boolean, 2)) (hk : kd n = 21) (hv : (v : Int) = (sz n : Int)) (hsm : sz n ≤ 1000) (hn0 : X.n0 ≤ n) (hI : ∀ k, I n k = 0) (hc : cells + 1 ≤ X.R.cells) (hs : slots + sz n ≤ X.R.slots)
    (h : KW X (cells + 1) (slots + sz n) (pc + 2) L (.inr (some n) :: st) (n + 1) F I) : KW X cells slots pc L (.inl v :: st) n F I := by
  intro ad H locs ls ⟨hP, hD, hS, hF, oI⟩ ha hl oL oS
  obtain ⟨ov, oS⟩ := List.forall_mem_cons.mp oS
  have ov : inR v := ov
  have hts := C.1.2.2.2.2.1
  have hK := C.1.2.2.2.2.2.1
  refine va_newa (atype := .boolean) (ty := .boolean) (a0 := (sz n, .inl (fun j => Int32.ofInt (I n j)))) (N' := sz n) C.1.1 C.1.2.1 (hts _ kwords.2.1) rfl hK hP hD hS C.2 (fun cA => ?_) (fun q => ?_) ?_ ?_ hc hs hd (fun q cA H1 hK1 hP1 hD1 hS1 => ?_)
  · rw [vp_cell_i]
    congr 1
    funext j
    rw [hI]
    rfl
  · have := (ofInt_lt ov inR_0).mp q
    omega
  · rw [clampN ov (by omega)]; omega
  · show sz n * 1 ≤ 536870912
    omega
  · have e1 : cA = X.D.2.2.1 := va_RA_bool ((hK1.2 3 (cA, .boolean) rfl).2) ((hK.2 1 _ rfl).2)
    have e : (Sum.inl (cA, sz n, .inl (fun j => Int32.ofInt (I n j))) : va_E) = cellP X.D ad F I n := by unfold cellP; rw [if_neg (by omega), if_pos hk, e1]
    rw [e] at hP1 hD1
    exact KW.made hn0 h (Mk.new oI hF hP1 hD1 hS1) ha hl oL oS
theorem K_newQ {v : Int} {idx : Nat} (C : KC X own cc) (hd : decode cc pc = .ok (.anewarray idx, 3)) (hlink : Cond.classLink own idx "OneReturns$Moment" ∈ gw) (hk : kd n = 22) (hv : (v : Int) = (sz n : Int)) (hsm : sz n ≤ 1000) (hn0 : X.n0 ≤ n) (hFn : ∀ k, inF F n k = false) (hc : cells + 1 ≤ X.R.cells) (hs : slots + sz n ≤ X.R.slots)
    (h : KW X (cells + 1) (slots + sz n) (pc + 3) L (.inr (some n) :: st) (n + 1) F I) : KW X cells slots pc L (.inl v :: st) n F I := by
  intro ad H locs ls ⟨hP, hD, hS, hF, oI⟩ ha hl oL oS
  obtain ⟨ov, oS⟩ := List.forall_mem_cons.mp oS
  have ov : inR v := ov
  have hts := C.1.2.2.2.2.1
  have hK := C.1.2.2.2.2.2.1
  refine va_newq (C := "OneReturns$Moment") (N' := sz n) C.1.1 C.1.2.1 C.1.2.2.2.1 (hts _ hlink) C.1.2.2.2.2.2.2.2 hK hP hD hS C.2 (fun q => ?_) ?_ ?_ hc hs hd (fun q cA H1 hK1 hP1 hD1 hS1 => ?_)
  · have := (ofInt_lt ov inR_0).mp q
    omega
  · rw [clampN ov (by omega)]; omega
  · omega
  · have e1 : cA = X.D.2.2.2 := va_RA_obj ((hK1.2 3 (cA, .object "OneReturns$Moment") rfl).2) ((hK.2 2 _ rfl).2)
    have e : (Sum.inl (cA, sz n, .inr (.inr (.inr (.inr (fun _ => none))))) : va_E) = cellP X.D ad F I n := by
      unfold cellP
      have ef : (fun j => if inF F n j = true then (rf n j).map ad else none) = (fun _ => none) := by
        funext j
        rw [hFn, if_neg (by decide)]
      rw [if_neg (by omega), if_neg (by omega), if_pos hk, e1, ef]
    rw [e] at hP1 hD1
    exact KW.made hn0 h (Mk.new oI hF hP1 hD1 hS1) ha hl oL oS
end KHeap
