/-! Constructors' contracts, calls of constructors, their ends. -/
def AK (n0 : Nat) (ad0 : Nat → Nat) (sz : Nat) : Nat → Prop := fun q => (∃ i, i < n0 ∧ ad0 i = q) ∨ sz ≤ q
def PK (D : Dw) (ad0 : Nat → Nat) (n0 : Nat) (F : Fl) (I : Mem) (sz id : Nat) : Array Value → State → Prop := va_Pc [.ref (ad0 id)] (fun U => U.heap.size = sz ∧ va_P D.1 vwCl (wsP n0 D ad0 F I) U.heap ∧ va_K D.1 vwCl (tysOf D) U ∧ va_D (fun _ => True) (wsP n0 D ad0 F I) ∧ Nst U ∧ va_AO "OneReturns$Moment" U)
def QK (D : Dw) (ad0 : Nat → Nat) (n0 sz n' : Nat) (F' : Fl) (Pm : Mem → Prop) : Array Value → State → Outcome → State → Prop :=
  va_Qv (S := (Nat → Nat) × Mem) (fun u => (∀ i, i < n0 → u.1 i = ad0 i) ∧ Pm u.2 ∧ okI u.2 ∧ FOK n' F') (fun u t => va_P D.1 vwCl (wsP n' D u.1 F' u.2) t.heap ∧ va_D (AK n0 ad0 sz) (wsP n' D u.1 F' u.2)) (AK n0 ad0 sz)
def KMet (l : Launch) (D : Dw) (j id n0 : Nat) (F : Fl) (I : Mem) (n' : Nat) (F' : Fl) (Pm : Mem → Prop) : Prop :=
  ∀ (ad0 : Nat → Nat) (sz : Nat), Met l (kY j) (wsK j) (kRm j) (PK D ad0 n0 F I sz id) (QK D ad0 n0 sz n' F' Pm) (kRm j).cells (kRm j).slots (AK n0 ad0 sz)
def xk (p : Program) (l : Launch) (e : Env) (s : State) (m : MethodId) (args : Array Value) (below : List Frame) (meth : Method) (c : Code) (D : Dw) (ad0 : Nat → Nat) (n0 j n' : Nat) (F' : Fl) (Pm : Mem → Prop) : Kx :=
  (p, l, e, kRm j, s, m, args, below, meth, c, D, AK n0 ad0 s.heap.size, n0, ad0, MQ below (QK D ad0 n0 s.heap.size n' F' Pm) args s (kRm j).cells (kRm j).slots (AK n0 ad0 s.heap.size), kL j, [])
/-- what holds of a constructor's frame -/
def KC2 (X : Kx) (j : Nat) : Prop := KC X (kY j).cls (kC j) ∧ X.meth.name = "<init>" ∧ X.meth.sig.returnType = none ∧ X.meth.locks = false ∧ X.nL = kL j ∧ X.R = kRm j ∧ X.E = []
theorem wsP_len {n : Nat} {D : Dw} {ad : Nat → Nat} {F : Fl} {I : Mem} : (wsP n D ad F I).length = n := by simp [wsP]
theorem wsP_in {n : Nat} {D : Dw} {ad : Nat → Nat} {F : Fl} {I : Mem} {k : Nat} {q : Nat × va_E} (h : (wsP n D ad F I)[k]? = some q) : k < n ∧ q = (ad k, cellP D ad F I k) := by
  have hl := (List.getElem?_eq_some_iff.mp h).1
  rw [wsP_len] at hl
  rw [wsP_at hl] at h
  exact ⟨hl, (Option.some.inj h).symm⟩
theorem KMet_of {l : Launch} {D : Dw} {j id n0 n' : Nat} {F F' : Fl} {I : Mem} {Pm : Mem → Prop} (hj : j < 9) (hid : id < n0) (hF : FOK n0 F) (oI : okI I)
    (h : ∀ p e s m args below meth c ad0, KC2 (xk p l e s m args below meth c D ad0 n0 j n' F' Pm) j → KW (xk p l e s m args below meth c D ad0 n0 j n' F' Pm) 0 0 0 [(0, .inr (some id))] [] n0 F I) : KMet l D j id n0 F I n' F' Pm := by
  intro ad0 sz
  have hk := kok hj
  refine Met.ofW (cc := kC j) (maxL := kL j) (ret := none) hk.2.2.2.2.2.2.1 rfl ?_
  intro p e s m args below meth c s₁ B hml hv
  obtain ⟨rfl, hsz, hP, hK, hD, hNs, hAO⟩ := hv
  subst hsz
  have hts : ∀ w ∈ wsK j, w.before _ s = true := atoms_spec (ws := wsK j) B.pre
  have hin : meth.name = "<init>" := (name_of_methodNamed B.named B.method).1.trans hk.2.2.2.2.2.2.2.2
  have hl := lv_entry ([.ref (ad0 id)]) (n := kL j) (by
    show 1 ≤ kL j
    match j, hj with
    | 0, _ => decide
    | 1, _ => decide
    | 2, _ => decide
    | 3, _ => decide
    | 4, _ => decide
    | 5, _ => decide
    | 6, _ => decide
    | 7, _ => decide
    | 8, _ => decide
    | n + 9, h => exact absurd h (by omega))
  rw [lg_entry_eq]
  refine h p e s m _ below meth c ad0 ⟨⟨⟨B.exec, B.bytes, hml, findClass_of_methodNamed B.named, fun w hw => hts w (List.mem_cons_of_mem _ hw), hK, hNs, hAO⟩, fun q hq => Or.inr hq⟩, hin, B.returns, B.notSynchronized, rfl, rfl, rfl⟩ ad0 s.heap [] _ ⟨hP, ⟨hD.1, fun k q hq => ?_⟩, va_S.rf, hF, oI⟩ (fun _ _ => rfl) hl (fun q hq => ?_) (fun v hv => by cases hv)
  · obtain ⟨h1, rfl⟩ := wsP_in hq
    exact Or.inl ⟨k, h1, rfl⟩
  · cases List.mem_singleton.mp hq
    exact hid
section KCall
variable {X : Kx} {own : String} {cc : ByteArray} {cells slots pc : Nat} {L : List (Nat × AV)} {st : List AV} {n : Nat} {F : Fl} {I : Mem}
theorem K_ret {D : Dw} {j n' : Nat} {F' : Fl} {Pm : Mem → Prop} {p : Program} {l : Launch} {e : Env} {s : State} {m : MethodId} {args : Array Value} {below : List Frame} {meth : Method} {c : Code} {ad0 : Nat → Nat} {n0 : Nat} (C : KC2 (xk p l e s m args below meth c D ad0 n0 j n' F' Pm) j) (hd : decode (kC j) pc = .ok (.return_, 1)) (h1 : cells ≤ (kRm j).cells) (h2 : slots ≤ (kRm j).slots) (hP : Pm I) :
    KW (xk p l e s m args below meth c D ad0 n0 j n' F' Pm) cells slots pc L [] n' F' I := by
  intro ad H locs ls hM ha hl oL oS
  obtain ⟨hP1, hD1, hS1, hF1, oI1⟩ := hM
  refine W.widen h1 h2 ?_
  exact W.vret C.1.1.1 C.1.1.2.1 C.2.2.1 (fun t ht hW => ⟨⟨(ad, I), rfl, ⟨ha, hP, oI1, hF1⟩, by rw [ht]; exact hP1, hD1⟩, hS1.F ht⟩) hS1.2.2 hd C.2.2.2.1
theorem K_call {j idx id n' : Nat} {F' : Fl} {Pm : Mem → Prop} (C : KC X own cc) (hd : decode cc pc = .ok (.invokespecial idx, 3)) (hj : j < 9) (hlink : Cond.methodLink own idx (kY j) ∈ gw) (hrm : (kRm j).frames + 1 ≤ X.R.frames ∧ 8 + (kL j + 11) + (kRm j).locals ≤ X.R.locals) (hc : cells + (kRm j).cells ≤ X.R.cells ∧ slots + (kRm j).slots ≤ X.R.slots) (h8 : st.length ≤ 8) (hn0 : X.n0 ≤ n) (hn' : n ≤ n')
    (hM : id < n → FOK n F → okI I → KMet X.l X.D j id n F I n' F' Pm) (h : ∀ I', Pm I' → KW X (cells + (kRm j).cells) (slots + (kRm j).slots) (pc + 3) L st n' F' I') : KW X cells slots pc L (.inr (some id) :: st) n F I := by
  intro ad H locs ls hMk ha hl oL oS
  obtain ⟨hP, hD, hS, hF, oI⟩ := hMk
  obtain ⟨hid, oT⟩ := List.forall_mem_cons.mp oS
  have hid : id < n := hid
  have hts := C.1.2.2.2.2.1
  have hk := kok hj
  have hK := C.1.2.2.2.2.2.1
  have hNs := C.1.2.2.2.2.2.2.1
  have hAO := C.1.2.2.2.2.2.2.2
  have hMet := hM hid hF oI ad H.size
  have hfree : ∀ q, AK n ad H.size q → X.A q := by
    intro q hq
    rcases hq with ⟨i, hi, rfl⟩ | hq
    · exact hD.2 i _ (wsP_at hi)
    · exact C.2 q (Nat.le_trans hS.1 hq)
  have hW8 : 2 * (F0 X.m pc ls (.ref (ad id) :: st.map (cv ad))).monitorRoom + ((st.map (cv ad)).map fun v => v.category).sum ≤ 8 := lv_room (by rw [cat_sum]; exact h8)
  refine va_callv (va_runI (As := []) (rest := st.map (cv ad)) (b := ad id) ⟨C.1.1, C.1.2.1, C.1.2.2.1, C.1.2.2.2.1, hts⟩ hMet (cwI 0 hts (goodIn_wsK hj) rfl rfl rfl (hts _ hk.2.1) (hts _ hlink) (hts _ hk.2.2.2.1) hk.2.2.2.2.2.2.2.2 ⟨hk.2.2.2.2.2.2.2.1.1, hk.2.2.2.2.2.2.2.1.2, hk.2.2.2.2.1⟩ hrm) ⟨fun a U g mk q => ?_, fun U hU hW => ?_⟩ rfl rfl hl.1 rfl hW8 hd hc) hS (fun q _ h => hfree q h) hfree (fun u t H1 locs1 ht hvm hw hB hz1 hk1 hS1 => ?_)
  · obtain ⟨q0, q1, qP, qK, qD, qN, qA⟩ := q
    exact ⟨q0, q1, qP, va_K.moved (u := U) (U := U.calling g mk a) (Vm.Alike.refl U.vm) qK, qD, Nst.same (u := U) (U := U.calling g mk a) rfl qN, va_AO.moved (u := U) (U := U.calling g mk a) (Vm.Alike.refl U.vm) qA⟩
  · exact ⟨rfl, by rw [hU], by rw [hU]; exact hP, va_K.moved hW.alike hK, hD.weaken (fun _ _ _ _ => trivial), hNs.warm hW, va_AO.moved hW.alike hAO⟩
  · obtain ⟨w1, w2, w3, w4⟩ := hw
    obtain ⟨b1, b2⟩ := hB
    have h2 := h u.2 w2 u.1 H1 locs1 ls ⟨by rw [← ht]; exact b1, b2.weaken (fun _ q _ hq => hfree q.1 hq), hS1, w4, w3⟩ (fun i hi => by rw [w1 i (by omega)]; exact ha i hi) (by rw [cvL_ad w1 oL]; exact hl) (fun q hq => okv_up hn' (oL q hq)) (fun v hv => okv_up hn' (oT v hv))
    rw [cvS_ad w1 oT] at h2
    exact h2
end KCall
