/-! Calls: a method's R is its contract. -/
def enumL : Nat → List AV → List (Nat × AV)
  | _, [] => []
  | i, v :: l => (i, v) :: enumL (i + 1) l
theorem lv_args_cv (ad : Nat → Nat) (as : List AV) : ∀ i, lv_args i (as.map (cv ad)) = cvL ad (enumL i as) := by
  induction as with
  | nil => intro i; rfl
  | cons v l ih =>
    intro i
    show (i, cv ad v) :: lv_args (if (cv ad v).category = 2 then i + 2 else i + 1) (l.map (cv ad)) = (i, cv ad v) :: cvL ad (enumL (i + 1) l)
    rw [cat1, if_neg (by decide), ih]
theorem lg_sl_len (ad : Nat → Nat) (as : List AV) : (lg_sl (as.map (cv ad))).length = as.length := by
  induction as with
  | nil => rfl
  | cons v l ih =>
    have e : lg_sl ((v :: l).map (cv ad)) = [.val (cv ad v)] ++ lg_sl (l.map (cv ad)) := by simp [lg_sl, cat1]
    rw [e, List.length_append, ih]
    simp
    omega
theorem enumL_ok {N : Nat} {as : List AV} (h : ∀ v ∈ as, okv N v) : ∀ i, ∀ q ∈ enumL i as, okv N q.2 := by
  induction as with
  | nil => intro i q hq; cases hq
  | cons v l ih =>
    intro i q hq
    rcases List.mem_cons.mp hq with rfl | hq
    · exact h _ List.mem_cons_self
    · exact ih (fun v hv => h v (List.mem_cons_of_mem _ hv)) _ q hq
/-- a method's start, as its callers see it -/
def PcOf (N : Nat) (D : Dw) (ad : Nat → Nat) (as : List AV) (I : Mem) : Array Value → State → Prop := va_Pc (as.map (cv ad)) (fun U => va_P D.1 vwCl (wsOf N D ad I) U.heap ∧ va_K D.1 vwCl (tysOf D) U ∧ Nst U)
theorem Met_of_R {k : Nat} (hk : k < mN) {as : List AV} {I : Mem} {Q : Post} (hR : R k 0 (enumL 0 as) [] I Q) (hn : as.length ≤ mL k) (l : Launch) {N : Nat} {D : Dw} {ad : Nat → Nat} (hN : NOK N) (hi : ∀ i j, i < N → j < N → ad i = ad j → i = j) (oI : okI I) (oA : ∀ v ∈ as, okv N v) :
    Met l (mY k) (wsM k) (mRm k) (PcOf N D ad as I) (QcOf N D ad Q) 0 0 (Ad N ad) := by
  refine Met.ofW (cc := mC k) (maxL := mL k) (ret := mR k) (mok hk).2.2.2.2.2.2.1 rfl ?_
  intro p e s m args below meth c s₁ B hml hv
  obtain ⟨rfl, hP, hK, hNs⟩ := hv
  have hts : ∀ w ∈ wsM k, w.before _ s = true := atoms_spec (ws := wsM k) B.pre
  rw [lg_entry_eq]
  have hl := lv_entry (as.map (cv ad)) (n := mL k) (by rw [lg_sl_len]; exact hn)
  rw [lv_args_cv] at hl
  exact hR l p e s m _ below meth c N D ad ⟨B.exec, B.bytes, B.returns, hml, findClass_of_methodNamed B.named, fun w hw => hts w (List.mem_cons_of_mem _ hw), B.notSynchronized, hk⟩ ⟨hN, hi, hK, hNs⟩ s.heap [] _ hP va_S.rf hl (enumL_ok oA 0) (fun v hv => by cases hv) oI
theorem Nst.warm {s U : State} (hW : s.WarmedH U.vm) (h : Nst s) : Nst U := fun q hq h1 => va_Nw.warmM hW (h q hq h1)
theorem Nst.same {u U : State} (hvm : u.vm = U.vm) (h : Nst u) : Nst U := fun q hq h1 => va_Nw.same rfl hvm (h q hq h1)
theorem PcOf_blind {N : Nat} {D : Dw} {ad : Nat → Nat} {as : List AV} {I : Mem} : FrameBlind (PcOf N D ad as I) := fun a U g mk q => by
  obtain ⟨q0, qP, qK, qN⟩ := q
  exact ⟨q0, qP, va_K.moved (u := U) (U := U.calling g mk a) (Vm.Alike.refl U.vm) qK, Nst.same (u := U) (U := U.calling g mk a) rfl qN⟩
theorem PcOf_at {N : Nat} {D : Dw} {ad : Nat → Nat} {as : List AV} {I : Mem} {s : State} {H : Heap} (hP : va_P D.1 vwCl (wsOf N D ad I) H) (hK : va_K D.1 vwCl (tysOf D) s) (hNs : Nst s) : ∀ U : State, U.heap = H → s.WarmedH U.vm → PcOf N D ad as I (as.map (cv ad)).toArray U := fun U hU hW =>
  ⟨rfl, by rw [hU]; exact hP, va_K.moved hW.alike hK, hNs.warm hW⟩
section CallW
variable {p : Program} {l : Launch} {e : Env} {R : Room} {s : State} {m : MethodId} {args : Array Value} {below : List Frame} {meth : Method} {c : Code} {H : Heap} {locs : List Loc} {cells slots : Nat} {Qw : State → Prop}
variable {pc : Nat} {ls : Array Slot} {rest st0 : List Value} {a : Array Value} {A0 : Nat → Prop} {H0 : Heap} {N : Nat} {D : Dw} {ad : Nat → Nat} {Q : Post}
/-- behind a call -/
theorem va_callQ (hr : va_Run p l e R s m args below meth c H locs cells slots 0 0 (F0 m pc ls st0) rest (QcOf N D ad Q a) (Ad N ad)) (hS : va_S A0 H0 H locs) (hA : ∀ q, Ad N ad q → A0 q)
    (kk : ∀ (r : Option AV) (I : Mem) (H1 : Heap) (locs1 : List Loc), Q r I → okI I → (∀ v, r = some v → okv N v) → va_P D.1 vwCl (wsOf N D ad I) H1 → (∀ q : Nat, q < H.size → ¬ Ad N ad q → H1[q]? = H[q]?) → va_S A0 H0 H1 locs1 → W p l e R s m args below meth c H1 locs1 cells slots Qw (F0 m (pc + 3) ls ((r.map (cv ad)).toList ++ rest))) :
    W p l e R s m args below meth c H locs cells slots Qw (F0 m pc ls st0) := by
  intro T hT X
  obtain ⟨v, st₀, t, T', L, h0, X', hL, e1, e2, ⟨⟨r, I, hv, hq, oI, ov, hP⟩, hz, hk⟩, st⟩ := hr T hT X
  cases hv
  rw [h0] at hz hk
  obtain ⟨t2, a1, b1⟩ := kk r I T'.heap (locs ++ L) hq oI ov (by rw [e1]; exact hP) (fun q h1 h2 => by rw [e1]; exact hk q h1 h2)
    ⟨Nat.le_trans hS.1 (by rw [e1]; exact hz), fun q h1 h2 => by rw [e1, hk q (Nat.lt_of_lt_of_le h1 hS.1) (fun z => h2 (hA q z))]; exact hS.2.1 q h1 h2, fun q hq => by
      rcases List.mem_append.mp hq with h | h
      · exact hS.2.2 q h
      · exact hA _ (hL q h)⟩ T' rfl X'
  exact ⟨t2, st t2 a1, b1⟩
end CallW
theorem wsM_eq (k : Nat) : wsM k = Cond.code (mY k) (mC k) (mL k) (mR k) :: gw := rfl
section Rules
variable {k pc : Nat} {L : List (Nat × AV)} {st : List AV} {I : Mem} {Q : Post}
/-- the words of a link -/
theorem link_of {o idx k2 nest pl : Nat} (h : (o, idx, k2, nest, pl) ∈ ctab) : k2 < mN ∧ (nest ≠ 1 → Cond.methodLink (cnm o) idx (mY k2) ∈ gw) := by
  have h1 := List.all_eq_true.mp cchk_all _ h
  unfold cchk at h1
  simp only [Bool.and_eq_true, decide_eq_true_eq] at h1
  refine ⟨h1.1, fun hn => ?_⟩
  have h2 := h1.2
  rw [if_neg hn] at h2
  exact gw_of (List.mem_of_getElem? h2) rfl
theorem len_take {as : List AV} {n : Nat} {rest : List AV} (h : as.length = n) (ad : Nat → Nat) : ((as.reverse ++ rest).map (cv ad)) = (as.map (cv ad)).reverse ++ rest.map (cv ad) := by
  rw [List.map_append, List.map_reverse]
theorem okS_split {N : Nat} {as rest : List AV} (h : ∀ v ∈ as.reverse ++ rest, okv N v) : (∀ v ∈ as, okv N v) ∧ ∀ v ∈ rest, okv N v :=
  ⟨fun v hv => h v (List.mem_append_left _ (List.mem_reverse.mpr hv)), fun v hv => h v (List.mem_append_right _ hv)⟩
theorem R_static {idx k2 nest pl : Nat} {as : List AV} {Q2 : Post} (hd : decode (mC k) pc = .ok (.invokestatic idx, 3)) (hc : (mO k, idx, k2, nest, pl) ∈ ctab) (hst : (mP k2).2.2.2.2.1 = true) (hn : as.length = (mP k2).2.2.2.2.2) (hL : as.length ≤ mL k2)
    (hrm : (mRm k2).frames + 1 ≤ (mRm k).frames ∧ 8 + (mL k2 + 11) + (mRm k2).locals ≤ (mRm k).locals) (h8 : st.length ≤ 8)
    (hR : R k2 0 (enumL 0 as) [] I Q2) (h : ∀ r I', Q2 r I' → R k (pc + 3) L (r.toList ++ st) I' Q) : R k pc L (as.reverse ++ st) I Q := by
  intro l p e s m args below meth c N D ad C F H locs ls hP hS hl oL oS oI
  obtain ⟨oA, oT⟩ := okS_split oS
  obtain ⟨hk2, hlink⟩ := link_of hc
  have hM := Met_of_R hk2 hR hL l (D := D) F.1 F.2.1 oI oA
  have hm := mok hk2
  have hts := C.2.2.2.2.2.1
  have hown : cnm (mO k) = (mY k).cls := (mok C.2.2.2.2.2.2.2).2.2.2.2.2.1
  rw [len_take rfl]
  have hW8 : 2 * (F0 m pc ls ((as.map (cv ad)).reverse ++ st.map (cv ad))).monitorRoom + ((st.map (cv ad)).map fun v => v.category).sum ≤ 8 := lv_room (by rw [cat_sum]; exact h8)
  have hrun : va_Run p l e (mRm k) s m args below meth c H locs 0 0 0 0 (F0 m pc ls ((as.map (cv ad)).reverse ++ st.map (cv ad))) (st.map (cv ad)) (QcOf N D ad Q2 (as.map (cv ad)).toArray) (Ad N ad) := by
    by_cases hne : nest = 1
    · refine va_runSN (As := as.map (cv ad)) (host := "OneReturns") (index := idx) ⟨C.1, C.2.1, C.2.2.2.1, C.2.2.2.2.1, hts⟩ hM ⟨va_cnB (mP k2).2.2.2.2.2 hts (goodIn_wsM hk2) (wsM_eq k2) rfl rfl ?_ (hts _ hm.2.1) ⟨hm.2.2.2.2.2.2.2.1, hm.2.2.2.2.2.2.2.2, hm.2.2.2.2.1⟩ hrm, hts _ (hm.2.2.1 hst), trivial⟩ ⟨PcOf_blind, PcOf_at hP F.2.2.1 F.2.2.2⟩ rfl (by rw [List.length_map]; exact hn) hl.1 rfl hW8 hd ⟨Nat.le_refl _, Nat.le_refl _⟩
      have := F.2.2.2 _ hc hne
      rw [hown] at this
      exact this
    · refine va_runS (As := as.map (cv ad)) (own := (mY k).cls) (index := idx) ⟨C.1, C.2.1, C.2.2.2.1, C.2.2.2.2.1, hts⟩ hM (va_cwS (mP k2).2.2.2.2.2 hts ?_ (wsM_eq k2) rfl rfl ⟨hm.2.2.2.2.2.2.2.1, hm.2.2.2.2.2.2.2.2, hm.2.2.2.2.1⟩ hrm) ⟨PcOf_blind, PcOf_at hP F.2.2.1 F.2.2.2⟩ rfl (by rw [List.length_map]; exact hn) hl.1 rfl hW8 hd ⟨Nat.le_refl _, Nat.le_refl _⟩
      have e1 := hlink hne
      rw [hown] at e1
      refine goodIn_app ?_ (goodIn_wsM hk2)
      intro w hw
      simp only [List.mem_cons, List.not_mem_nil, or_false] at hw
      rcases hw with rfl | rfl | rfl
      · exact ⟨e1, gw_good _ e1⟩
      · exact ⟨hm.2.2.1 hst, gw_good _ (hm.2.2.1 hst)⟩
      · exact ⟨hm.2.1, gw_good _ hm.2.1⟩
  refine va_callQ hrun hS (fun q h => h) (fun r I' H1 locs1 hq oI' ov hP1 hk1 hS1 => ?_)
  have h3 := h r I' hq l p e s m args below meth c N D ad C F H1 locs1 ls hP1 hS1 hl oL (by
    intro v hv
    rcases List.mem_append.mp hv with hv | hv
    · exact ov v (by simpa using hv)
    · exact oT v hv) oI'
  have e3 : (r.toList ++ st).map (cv ad) = (r.map (cv ad)).toList ++ st.map (cv ad) := by cases r <;> simp
  rw [e3] at h3
  exact h3
theorem R_virtual {idx k2 nest pl id : Nat} {as : List AV} {Q2 : Post} (hd : decode (mC k) pc = .ok (.invokevirtual idx, 3)) (hc : (mO k, idx, k2, nest, pl) ∈ ctab) (hne : nest ≠ 1) (hst : (mP k2).2.2.2.2.1 = false) (hn : as.length = (mP k2).2.2.2.2.2) (hL : as.length + 1 ≤ mL k2)
    (hcl : ∃ r, vwCl[kd id]? = some r ∧ r.1 = (mY k2).cls)
    (hrm : (mRm k2).frames + 1 ≤ (mRm k).frames ∧ 8 + (mL k2 + 11) + (mRm k2).locals ≤ (mRm k).locals) (h8 : st.length ≤ 8)
    (hR : R k2 0 (enumL 0 (.inr (some id) :: as)) [] I Q2) (h : ∀ r I', Q2 r I' → R k (pc + 3) L (r.toList ++ st) I' Q) : R k pc L (as.reverse ++ .inr (some id) :: st) I Q := by
  intro l p e s m args below meth c N D ad C F H locs ls hP hS hl oL oS oI
  obtain ⟨oA, oT⟩ := okS_split oS
  obtain ⟨hid, oT⟩ := List.forall_mem_cons.mp oT
  have hid : id < N := hid
  obtain ⟨hk2, hlink⟩ := link_of hc
  have oA2 : ∀ v ∈ (Sum.inr (some id) :: as : List AV), okv N v := List.forall_mem_cons.mpr ⟨hid, oA⟩
  have hM := Met_of_R hk2 hR (by simpa using hL) l (D := D) F.1 F.2.1 oI oA2
  have hm := mok hk2
  have hts := C.2.2.2.2.2.1
  have hown : cnm (mO k) = (mY k).cls := (mok C.2.2.2.2.2.2.2).2.2.2.2.2.1
  rw [len_take rfl]
  have hW8 : 2 * (F0 m pc ls ((as.map (cv ad)).reverse ++ (Sum.inr (some id) :: st : List AV).map (cv ad))).monitorRoom + ((st.map (cv ad)).map fun v => v.category).sum ≤ 8 := lv_room (by rw [cat_sum]; exact h8)
  obtain ⟨r, hr1, hr2⟩ := hcl
  have hcell : (wsOf N D ad I)[id]? = some (ad id, .inr (kd id, (List.range (sz id)).map (slotv ad I id))) := by rw [ws_at hid, cell_obj (vw_lt hr1)]
  have hrecv := va_recv F.2.2.1 hP hr1 hcell
  rw [hr2] at hrecv
  have hrun : va_Run p l e (mRm k) s m args below meth c H locs 0 0 0 0 (F0 m pc ls ((as.map (cv ad)).reverse ++ (Sum.inr (some id) :: st : List AV).map (cv ad))) (st.map (cv ad)) (QcOf N D ad Q2 ((Sum.inr (some id) :: as : List AV).map (cv ad)).toArray) (Ad N ad) := by
    refine va_runV (As := as.map (cv ad)) (own := (mY k).cls) (index := idx) (C := (mY k2).cls) (b := ad id) ⟨C.1, C.2.1, C.2.2.2.1, C.2.2.2.2.1, hts⟩ hM (cwV (mP k2).2.2.2.2.2 hts ?_ (wsM_eq k2) rfl rfl ⟨rfl, hm.2.2.2.2.2.2.2.1, hm.2.2.2.2.2.2.2.2, hm.2.2.2.2.1⟩ hrm) ⟨PcOf_blind, hrecv, PcOf_at hP F.2.2.1 F.2.2.2⟩ rfl (by rw [List.length_map]; exact hn) hl.1 rfl hW8 hd ⟨Nat.le_refl _, Nat.le_refl _⟩
    have e1 := hlink hne
    rw [hown] at e1
    refine goodIn_app ?_ (goodIn_wsM hk2)
    intro w hw
    simp only [List.mem_cons, List.not_mem_nil, or_false] at hw
    rcases hw with rfl | rfl | rfl | rfl
    · exact ⟨e1, gw_good _ e1⟩
    · exact ⟨(hm.2.2.2.1 hst).1, gw_good _ (hm.2.2.2.1 hst).1⟩
    · exact ⟨(hm.2.2.2.1 hst).2, gw_good _ (hm.2.2.2.1 hst).2⟩
    · exact ⟨hm.2.1, gw_good _ hm.2.1⟩
  refine va_callQ hrun hS (fun q h => h) (fun r I' H1 locs1 hq oI' ov hP1 hk1 hS1 => ?_)
  have h3 := h r I' hq l p e s m args below meth c N D ad C F H1 locs1 ls hP1 hS1 hl oL (by
    intro v hv
    rcases List.mem_append.mp hv with hv | hv
    · exact ov v (by simpa using hv)
    · exact oT v hv) oI'
  have e3 : (r.toList ++ st).map (cv ad) = (r.map (cv ad)).toList ++ st.map (cv ad) := by cases r <;> simp
  rw [e3] at h3
  exact h3
theorem min_of {a b : Int} (ha : inR a) (hb : inR b) : (if Int32.ofInt b < Int32.ofInt a then Int32.ofInt b else Int32.ofInt a) = Int32.ofInt (min a b) := by
  by_cases h : b < a
  · rw [if_pos ((ofInt_lt hb ha).mpr h), show min a b = b by omega]
  · rw [if_neg (fun q => h ((ofInt_lt hb ha).mp q)), show min a b = a by omega]
theorem max_of {a b : Int} (ha : inR a) (hb : inR b) : (if Int32.ofInt a < Int32.ofInt b then Int32.ofInt b else Int32.ofInt a) = Int32.ofInt (max a b) := by
  by_cases h : a < b
  · rw [if_pos ((ofInt_lt ha hb).mpr h), show max a b = b by omega]
  · rw [if_neg (fun q => h ((ofInt_lt ha hb).mp q)), show max a b = a by omega]
theorem xlink {o idx k2 pl : Nat} (h : (o, idx, k2, pl) ∈ mtab) : Cond.methodLink (cnm o) idx (if k2 = 1000 then Lib.Math.min.name else Lib.Math.max.name) ∈ gw := by
  have h1 := List.all_eq_true.mp xchk_all _ h
  unfold xchk at h1
  simp only [decide_eq_true_eq] at h1
  exact gw_of (List.mem_of_getElem? h1) rfl
theorem R_min {idx pl : Nat} {a b : Int} (hd : decode (mC k) pc = .ok (.invokestatic idx, 3)) (hc : (mO k, idx, 1000, pl) ∈ mtab) (hrm : 1 ≤ (mRm k).frames ∧ 21 ≤ (mRm k).locals) (h8 : st.length ≤ 8) (h : R k (pc + 3) L (.inl (min a b) :: st) I Q) : R k pc L (.inl b :: .inl a :: st) I Q := by
  intro l p e s m args below meth c N D ad C F H locs ls hP hS hl oL oS oI
  obtain ⟨ob, oT⟩ := List.forall_mem_cons.mp oS
  obtain ⟨oa, oT⟩ := List.forall_mem_cons.mp oT
  have ob : inR b := ob
  have oa : inR a := oa
  have hts := C.2.2.2.2.2.1
  have e1 := hts _ (xlink hc)
  rw [(mok C.2.2.2.2.2.2.2).2.2.2.2.2.1] at e1
  have h2 := h l p e s m args below meth c N D ad C F H locs ls hP hS hl oL (List.forall_mem_cons.mpr ⟨by show inR (min a b); unfold inR at *; omega, oT⟩) oI
  refine va_mmin C.1 C.2.1 (C.2.2.2.1.trans hl.1.symm) C.2.2.2.2.1 e1 (hts _ math_words.1) (hts _ math_words.2.2.1) (hts _ math_words.2.2.2.1) hrm.1 (by rw [cat_sum]; omega) (Nat.zero_le _) (Nat.zero_le _) hd ?_
  rw [min_of oa ob]
  exact h2
theorem R_max {idx pl : Nat} {a b : Int} (hd : decode (mC k) pc = .ok (.invokestatic idx, 3)) (hc : (mO k, idx, 1001, pl) ∈ mtab) (hrm : 1 ≤ (mRm k).frames ∧ 21 ≤ (mRm k).locals) (h8 : st.length ≤ 8) (h : R k (pc + 3) L (.inl (max a b) :: st) I Q) : R k pc L (.inl b :: .inl a :: st) I Q := by
  intro l p e s m args below meth c N D ad C F H locs ls hP hS hl oL oS oI
  obtain ⟨ob, oT⟩ := List.forall_mem_cons.mp oS
  obtain ⟨oa, oT⟩ := List.forall_mem_cons.mp oT
  have ob : inR b := ob
  have oa : inR a := oa
  have hts := C.2.2.2.2.2.1
  have e1 := hts _ (xlink hc)
  rw [(mok C.2.2.2.2.2.2.2).2.2.2.2.2.1] at e1
  have h2 := h l p e s m args below meth c N D ad C F H locs ls hP hS hl oL (List.forall_mem_cons.mpr ⟨by show inR (max a b); unfold inR at *; omega, oT⟩) oI
  refine va_mmax C.1 C.2.1 (C.2.2.2.1.trans hl.1.symm) C.2.2.2.2.1 e1 (hts _ math_words.2.1) (hts _ math_words.2.2.1) (hts _ math_words.2.2.2.2) hrm.1 (by rw [cat_sum]; omega) (Nat.zero_le _) (Nat.zero_le _) hd ?_
  rw [max_of oa ob]
  exact h2
/-- what holds of an end may be weakened -/
theorem R.mono {Q Q' : Post} (h : R k pc L st I Q) (hq : ∀ r I', Q r I' → Q' r I') : R k pc L st I Q' := by
  intro l p e s m args below meth c N D ad C F H locs ls hP hS hl oL oS oI T hT X
  obtain ⟨t, a, o, b1, b2, ⟨⟨⟨r, I', c1, c2, c3, c4, c5⟩, d1⟩, d2⟩⟩ := h l p e s m args below meth c N D ad C F H locs ls hP hS hl oL oS oI T hT X
  exact ⟨t, a, o, b1, b2, ⟨⟨⟨r, I', c1, hq r I' c2, c3, c4, c5⟩, d1⟩, d2⟩⟩
/-- fewer locals are enough -/
theorem R.sub {L' : List (Nat × AV)} (h : R k pc L' st I Q) (hL : ∀ q ∈ L', q ∈ L) : R k pc L st I Q := by
  intro l p e s m args below meth c N D ad C F H locs ls hP hS hl oL oS oI
  refine h l p e s m args below meth c N D ad C F H locs ls hP hS ⟨hl.1, hl.2.1, fun q hq => ?_⟩ (fun q hq => oL q (hL q hq)) oS oI
  obtain ⟨q0, h0, rfl⟩ := List.mem_map.mp hq
  exact hl.2.2 _ (List.mem_map.mpr ⟨q0, hL q0 h0, rfl⟩)
end Rules
