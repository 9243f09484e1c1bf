/-! The judgement R: method k, at pc, with locals L, stack st and memory I, ends with Q. Numbers are Int (in the range of int), references are numbers of objects of the fixed graph gt. -/
abbrev AV : Type := Int ⊕ Option Nat
abbrev Mem : Type := Nat → Nat → Int
abbrev Post : Type := Option AV → Mem → Prop
def kd (id : Nat) : Nat := match nth gt id with
  | some q => q.1
  | none => 99
def sz (id : Nat) : Nat := match nth gt id with
  | some q => q.2.1
  | none => 0
def rf (id k : Nat) : Option Nat := match nth gt id with
  | some q => (match nth q.2.2 k with
    | some r => r
    | none => none)
  | none => none
def inR (x : Int) : Prop := -2147483648 ≤ x ∧ x < 2147483648
def wrap (x : Int) : Int := (x + 2147483648) % 4294967296 - 2147483648
def upd2 (I : Mem) (id k : Nat) (v : Int) : Mem := fun a b => if a = id ∧ b = k then v else I a b
def cv (ad : Nat → Nat) : AV → Value
  | .inl x => .int (Int32.ofInt x)
  | .inr r => va_rf (r.map ad)
def slotv (ad : Nat → Nat) (I : Mem) (id k : Nat) : Value := match rf id k with
  | some r => .ref (ad r)
  | none => .int (Int32.ofInt (I id k))
abbrev Dw : Type := va_G × ClassId × ClassId × ClassId
def cellOf (D : Dw) (ad : Nat → Nat) (I : Mem) (id : Nat) : va_E :=
  if kd id = 20 then .inl (D.2.1, sz id, .inl (fun j => Int32.ofInt (I id j)))
  else if kd id = 21 then .inl (D.2.2.1, sz id, .inl (fun j => Int32.ofInt (I id j)))
  else if kd id = 22 then .inl (D.2.2.2, sz id, .inr (.inr (.inr (.inr (fun j => (rf id j).map ad)))))
  else .inr (kd id, (List.range (sz id)).map (slotv ad I id))
def wsOf (N : Nat) (D : Dw) (ad : Nat → Nat) (I : Mem) : va_W := (List.range N).map (fun id => (ad id, cellOf D ad I id))
def tysOf (D : Dw) : List (ClassId × FieldType) := [(D.2.1, .int), (D.2.2.1, .boolean), (D.2.2.2, .object "OneReturns$Moment")]
def Ad (N : Nat) (ad : Nat → Nat) : Nat → Prop := fun q => ∃ id, id < N ∧ ad id = q
def okv (N : Nat) : AV → Prop
  | .inl x => inR x
  | .inr none => True
  | .inr (some r) => r < N
def okI (I : Mem) : Prop := ∀ a b, inR (I a b)
def NOK (N : Nat) : Prop := N = N1 ∨ N = N2
def Cx (k : Nat) (p : Program) (s : State) (m : MethodId) (args : Array Value) (meth : Method) (c : Code) : Prop :=
  p.tables.exec = Jvm.exec ∧ c.code = mC k ∧ meth.sig.returnType = mR k ∧ c.maxLocals = mL k ∧ s.vm.findClass (mY k).cls = some m.cls ∧ (∀ w ∈ gw, w.before args s = true) ∧ meth.locks = false ∧ k < mN
/-- the links to private methods of the nest's host -/
def Nst (s : State) : Prop := ∀ q ∈ ctab, q.2.2.2.1 = 1 → va_Nw (.methodLinkNest (cnm q.1) q.2.1 (mY q.2.2.1) "OneReturns") s
def Fx (N : Nat) (D : Dw) (ad : Nat → Nat) (s : State) : Prop := NOK N ∧ (∀ i j, i < N → j < N → ad i = ad j → i = j) ∧ va_K D.1 vwCl (tysOf D) s ∧ Nst s
def QcOf (N : Nat) (D : Dw) (ad : Nat → Nat) (Q : Post) : Array Value → State → Outcome → State → Prop := fun _ st oc t =>
  (∃ (r : Option AV) (I : Mem), oc = .returned (r.map (cv ad)) ∧ Q r I ∧ okI I ∧ (∀ v, r = some v → okv N v) ∧ va_P D.1 vwCl (wsOf N D ad I) t.heap) ∧ va_F (Ad N ad) st t
def cvL (ad : Nat → Nat) (L : List (Nat × AV)) : List (Nat × Value) := L.map (fun q => (q.1, cv ad q.2))
def Wp (k : Nat) (l : Launch) (p : Program) (e : Env) (s : State) (m : MethodId) (args : Array Value) (below : List Frame) (meth : Method) (c : Code) (N : Nat) (D : Dw) (ad : Nat → Nat) (Q : Post) (pc : Nat) (L : List (Nat × AV)) (st : List AV) (I : Mem) : Prop :=
  ∀ (H : Heap) (locs : List Loc) (ls : Array Slot), va_P D.1 vwCl (wsOf N D ad I) H → va_S (Ad N ad) s.heap H locs → lv_has ls (mL k) (cvL ad L) → (∀ q ∈ L, okv N q.2) → (∀ v ∈ st, okv N v) → okI I →
    W p l e (mRm k) s m args below meth c H locs 0 0 (MQ below (QcOf N D ad Q) args s 0 0 (Ad N ad)) (F0 m pc ls (st.map (cv ad)))
def R (k pc : Nat) (L : List (Nat × AV)) (st : List AV) (I : Mem) (Q : Post) : Prop :=
  ∀ (l : Launch) (p : Program) (e : Env) (s : State) (m : MethodId) (args : Array Value) (below : List Frame) (meth : Method) (c : Code) (N : Nat) (D : Dw) (ad : Nat → Nat), Cx k p s m args meth c → Fx N D ad s → Wp k l p e s m args below meth c N D ad Q pc L st I
/-! numbers -/
theorem ofInt_wrap (x : Int) : Int32.ofInt (wrap x) = Int32.ofInt x := by
  apply Int32.toInt_inj.mp
  rw [Int32.toInt_ofInt, Int32.toInt_ofInt]
  have key : ∀ y : Int, Int.bmod y Int32.size = if y % 4294967296 < 2147483648 then y % 4294967296 else y % 4294967296 - 4294967296 := fun y => rfl
  rw [key, key]
  unfold wrap
  by_cases h1 : x % 4294967296 < 2147483648
  · rw [if_pos h1]
    by_cases h2 : ((x + 2147483648) % 4294967296 - 2147483648) % 4294967296 < 2147483648
    · rw [if_pos h2]; omega
    · rw [if_neg h2]; omega
  · rw [if_neg h1]
    by_cases h2 : ((x + 2147483648) % 4294967296 - 2147483648) % 4294967296 < 2147483648
    · rw [if_pos h2]; omega
    · rw [if_neg h2]; omega
theorem inR_wrap (x : Int) : inR (wrap x) := by
  unfold inR wrap
  omega
theorem wrap_eq {x : Int} (h : inR x) : wrap x = x := by
  unfold inR at h
  unfold wrap
  omega
theorem toI {x : Int} (h : inR x) : (Int32.ofInt x).toInt = x := by
  rw [Int32.toInt_ofInt]
  unfold inR at h
  simp only [Int.bmod, Int32.size]
  split <;> omega
theorem inR_toInt (x : Int32) : inR x.toInt := by
  have h1 := Int32.le_toInt x
  have h2 := Int32.toInt_lt x
  unfold inR
  omega
theorem ofInt_inj {a b : Int} (ha : inR a) (hb : inR b) : Int32.ofInt a = Int32.ofInt b ↔ a = b := by
  constructor
  · intro h
    have h2 := congrArg Int32.toInt h
    rwa [toI ha, toI hb] at h2
  · intro h; rw [h]
theorem ofInt_lt {a b : Int} (ha : inR a) (hb : inR b) : Int32.ofInt a < Int32.ofInt b ↔ a < b := by
  rw [Int32.lt_iff_toInt_lt, toI ha, toI hb]
theorem ofInt_le {a b : Int} (ha : inR a) (hb : inR b) : Int32.ofInt a ≤ Int32.ofInt b ↔ a ≤ b := by
  rw [Int32.le_iff_toInt_le, toI ha, toI hb]
theorem inR_0 : inR 0 := by unfold inR; omega
theorem wadd (a b : Int) : Int32.ofInt a + Int32.ofInt b = Int32.ofInt (wrap (a + b)) := by rw [ofInt_wrap, Int32.ofInt_add]
theorem wsub (a b : Int) : Int32.ofInt a - Int32.ofInt b = Int32.ofInt (wrap (a - b)) := by rw [ofInt_wrap, Int32.ofInt_sub]
theorem wmul (a b : Int) : Int32.ofInt a * Int32.ofInt b = Int32.ofInt (wrap (a * b)) := by rw [ofInt_wrap, Int32.ofInt_mul]
def iand (a b : Int) : Int := (Int32.ofInt a &&& Int32.ofInt b).toInt
def ior (a b : Int) : Int := (Int32.ofInt a ||| Int32.ofInt b).toInt
def ixor (a b : Int) : Int := (Int32.ofInt a ^^^ Int32.ofInt b).toInt
def ishl (a b : Int) : Int := (Int32.ofInt a <<< (Int32.ofInt b &&& 31)).toInt
def irem (a b : Int) : Int := (Int32.ofInt a - Int32.ofInt a / Int32.ofInt b * Int32.ofInt b).toInt
theorem clampN {x : Int} (h : inR x) (h0 : 0 ≤ x) : (Int32.ofInt x).toNatClampNeg = x.toNat := by
  show (Int32.ofInt x).toInt.toNat = x.toNat
  rw [toI h]
theorem vpin {x : Int} {n : Nat} (h : inR x) (h0 : 0 ≤ x) (h1 : x < n) : vp_in (Int32.ofInt x) n := by
  rw [vp_in_iff, toI h]
  exact ⟨h0, h1⟩
/-! the memory in the heap -/
theorem ws_at {N : Nat} {D : Dw} {ad : Nat → Nat} {I : Mem} {id : Nat} (h : id < N) : (wsOf N D ad I)[id]? = some (ad id, cellOf D ad I id) := by
  unfold wsOf
  rw [List.getElem?_map, List.getElem?_range h]
  rfl
theorem ws_D {N : Nat} {D : Dw} {ad : Nat → Nat} {I : Mem} (hi : ∀ i j, i < N → j < N → ad i = ad j → i = j) : va_D (Ad N ad) (wsOf N D ad I) := by
  have key : ∀ (i : Nat) (p : Nat × va_E), (wsOf N D ad I)[i]? = some p → i < N ∧ p.1 = ad i := by
    intro i p h
    have hl := (List.getElem?_eq_some_iff.mp h).1
    have hN : i < N := by simpa [wsOf] using hl
    rw [ws_at hN] at h
    cases h
    exact ⟨hN, rfl⟩
  refine ⟨fun i j p q h1 h2 e => ?_, fun k q h => ?_⟩
  · obtain ⟨a1, a2⟩ := key i p h1
    obtain ⟨b1, b2⟩ := key j q h2
    exact hi i j a1 b1 (by rw [← a2, ← b2, e])
  · obtain ⟨a1, a2⟩ := key k q h
    exact ⟨k, a1, a2.symm⟩
theorem ws_set {N : Nat} {D : Dw} {ad : Nat → Nat} {I I' : Mem} {id : Nat} (hid : id < N) {e : va_E} (he : e = cellOf D ad I' id) (ho : ∀ j, j ≠ id → I' j = I j) : (wsOf N D ad I).set id (ad id, e) = wsOf N D ad I' := by
  apply List.ext_getElem?
  intro j
  by_cases hj : j = id
  · subst hj
    rw [List.getElem?_set_self (by simpa [wsOf] using hid), ws_at hid, he]
  · rw [List.getElem?_set_ne (Ne.symm hj)]
    by_cases hN : j < N
    · rw [ws_at hN, ws_at hN]
      have e1 := ho j hj
      have e2 : cellOf D ad I' j = cellOf D ad I j := by
        unfold cellOf
        rw [show slotv ad I' j = slotv ad I j from by funext k; unfold slotv; rw [e1], e1]
      rw [e2]
    · rw [List.getElem?_eq_none (by simpa [wsOf] using hN), List.getElem?_eq_none (by simpa [wsOf] using hN)]
theorem upd2_ne {I : Mem} {id k : Nat} {v : Int} {j : Nat} (h : j ≠ id) : upd2 I id k v j = I j := by
  funext b
  unfold upd2
  rw [if_neg (fun q => h q.1)]
theorem okI_upd {I : Mem} {id k : Nat} {v : Int} (h : okI I) (hv : inR v) : okI (upd2 I id k v) := by
  intro a b
  unfold upd2
  split
  · exact hv
  · exact h a b
theorem cat1 (ad : Nat → Nat) (v : AV) : (cv ad v).category = 1 := by
  rcases v with x | (_ | r) <;> rfl
theorem cat_sum (ad : Nat → Nat) (st : List AV) : ((st.map (cv ad)).map fun v => v.category).sum = st.length := by
  induction st with
  | nil => rfl
  | cons v t ih =>
    simp only [List.map_cons, List.sum_cons, List.length_cons]
    rw [ih, cat1]
    omega
