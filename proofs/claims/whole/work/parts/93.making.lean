/-! Objects that are being made: n of them are there, F names the references that are in their places, the rest are null; numbers not yet written are 0. -/
abbrev Fl : Type := List (Nat × Nat)
abbrev Up : Type := List (Nat × Nat × Int)
def inF : Fl → Nat → Nat → Bool
  | [], _, _ => false
  | q :: l, a, b => (Nat.beq a q.1 && Nat.beq b q.2) || inF l a b
def iof (J : Mem) : Up → Mem
  | [] => J
  | q :: l => upd2 (iof J l) q.1 q.2.1 q.2.2
def up1 (ad : Nat → Nat) (n q : Nat) : Nat → Nat := fun i => if i = n then q else ad i
def slotP (ad : Nat → Nat) (F : Fl) (I : Mem) (id k : Nat) : Value := match rf id k with
  | some r => if inF F id k = true then .ref (ad r) else .null
  | none => .int (Int32.ofInt (I id k))
def cellP (D : Dw) (ad : Nat → Nat) (F : Fl) (I : Mem) (id : Nat) : va_E :=
  if kd id = 20 then .inl (D.2.1, sz id, .inl (fun j => Int32.ofInt (I id j)))
  else if kd id = 21 then .inl (D.2.2.1, sz id, .inl (fun j => Int32.ofInt (I id j)))
  else if kd id = 22 then .inl (D.2.2.2, sz id, .inr (.inr (.inr (.inr (fun j => if inF F id j = true then (rf id j).map ad else none)))))
  else .inr (kd id, (List.range (sz id)).map (slotP ad F I id))
def wsP (n : Nat) (D : Dw) (ad : Nat → Nat) (F : Fl) (I : Mem) : va_W := (List.range n).map (fun id => (ad id, cellP D ad F I id))
def FOK (n : Nat) (F : Fl) : Prop := ∀ id k r, inF F id k = true → rf id k = some r → r < n
theorem wsP_at {n : Nat} {D : Dw} {ad : Nat → Nat} {F : Fl} {I : Mem} {id : Nat} (h : id < n) : (wsP n D ad F I)[id]? = some (ad id, cellP D ad F I id) := by
  unfold wsP
  rw [List.getElem?_map, List.getElem?_range h]
  rfl
theorem cellP_ad {n : Nat} {D : Dw} {ad ad' : Nat → Nat} {F : Fl} {I : Mem} {id : Nat} (hF : FOK n F) (ha : ∀ i, i < n → ad' i = ad i) : cellP D ad' F I id = cellP D ad F I id := by
  unfold cellP
  have e1 : (fun j => if inF F id j = true then (rf id j).map ad' else none) = (fun j => if inF F id j = true then (rf id j).map ad else none) := by
    funext j
    by_cases hj : inF F id j = true
    · rw [if_pos hj, if_pos hj]
      cases hr : rf id j with
      | none => rfl
      | some r => show some (ad' r) = some (ad r); rw [ha r (hF id j r hj hr)]
    · rw [if_neg hj, if_neg hj]
  have e2 : slotP ad' F I id = slotP ad F I id := by
    funext j
    unfold slotP
    cases hr : rf id j with
    | none => rfl
    | some r =>
      dsimp only
      by_cases hj : inF F id j = true
      · rw [if_pos hj, if_pos hj, ha r (hF id j r hj hr)]
      · rw [if_neg hj, if_neg hj]
  rw [e1, e2]
theorem wsP_new {n : Nat} {D : Dw} {ad : Nat → Nat} {F : Fl} {I : Mem} {q : Nat} (hF : FOK n F) : wsP (n + 1) D (up1 ad n q) F I = wsP n D ad F I ++ [(q, cellP D ad F I n)] := by
  unfold wsP
  have ha : ∀ i, i < n → up1 ad n q i = ad i := fun i hi => by unfold up1; rw [if_neg (by omega)]
  rw [List.range_succ, List.map_append]
  congr 1
  · apply List.map_congr_left
    intro i hi
    rw [ha i (List.mem_range.mp hi), cellP_ad hF ha]
  · show [(up1 ad n q n, cellP D (up1 ad n q) F I n)] = _
    rw [cellP_ad hF ha]
    unfold up1
    rw [if_pos rfl]
theorem wsP_set {n : Nat} {D : Dw} {ad : Nat → Nat} {F F' : Fl} {I I' : Mem} {id : Nat} (hid : id < n) {e : va_E} (he : e = cellP D ad F' I' id) (ho : ∀ j, j ≠ id → I' j = I j) (hf : ∀ j k, j ≠ id → inF F' j k = inF F j k) : (wsP n D ad F I).set id (ad id, e) = wsP n D ad F' I' := by
  apply List.ext_getElem?
  intro j
  by_cases hj : j = id
  · subst hj
    rw [List.getElem?_set_self (by simpa [wsP] using hid), wsP_at hid, he]
  · rw [List.getElem?_set_ne (Ne.symm hj)]
    by_cases hN : j < n
    · rw [wsP_at hN, wsP_at hN]
      have e1 := ho j hj
      have e2 : cellP D ad F' I' j = cellP D ad F I j := by
        unfold cellP
        rw [show slotP ad F' I' j = slotP ad F I j from by funext k; unfold slotP; rw [e1, hf j k hj], show (fun k => if inF F' j k = true then (rf j k).map ad else none) = (fun k => if inF F j k = true then (rf j k).map ad else none) from by funext k; rw [hf j k hj], e1]
      rw [e2]
    · rw [List.getElem?_eq_none (by simpa [wsP] using hN), List.getElem?_eq_none (by simpa [wsP] using hN)]
/-- all that belongs there is there -/
theorem wsP_all {N : Nat} {D : Dw} {ad : Nat → Nat} {F : Fl} {I : Mem} (hF : ∀ id k r, id < N → rf id k = some r → inF F id k = true) : wsP N D ad F I = wsOf N D ad I := by
  unfold wsP wsOf
  apply List.map_congr_left
  intro i hi
  have hi := List.mem_range.mp hi
  congr 1
  unfold cellP cellOf
  have e1 : (fun j => if inF F i j = true then (rf i j).map ad else none) = (fun j => (rf i j).map ad) := by
    funext j
    cases hr : rf i j with
    | none => by_cases hj : inF F i j = true
              · rw [if_pos hj]
              · rw [if_neg hj]; rfl
    | some r => rw [if_pos (hF i j r hi hr)]
  have e2 : slotP ad F I i = slotv ad I i := by
    funext j
    unfold slotP slotv
    cases hr : rf i j with
    | none => rfl
    | some r => dsimp only; rw [if_pos (hF i j r hi hr)]
  rw [e1, e2]
theorem inF_cons {F : Fl} {a b id k : Nat} : inF ((a, b) :: F) id k = ((Nat.beq id a && Nat.beq k b) || inF F id k) := rfl
theorem inF_self {F : Fl} {a b : Nat} : inF ((a, b) :: F) a b = true := by rw [inF_cons, Nat.beq_refl, Nat.beq_refl]; rfl
theorem inF_ne {F : Fl} {a b id k : Nat} (h : ¬ (id = a ∧ k = b)) : inF ((a, b) :: F) id k = inF F id k := by
  rw [inF_cons]
  cases h1 : Nat.beq id a with
  | false => simp
  | true =>
    cases h2 : Nat.beq k b with
    | false => simp
    | true => exact absurd ⟨Nat.eq_of_beq_eq_true h1, Nat.eq_of_beq_eq_true h2⟩ h
theorem FOK.add {n a b : Nat} {F : Fl} (h : FOK n F) (hr : ∀ r, rf a b = some r → r < n) : FOK n ((a, b) :: F) := by
  intro id k r h1 h2
  by_cases e : id = a ∧ k = b
  · rw [e.1, e.2] at h2; exact hr r h2
  · rw [inF_ne e] at h1; exact h id k r h1 h2
theorem FOK.up {n n' : Nat} {F : Fl} (h : FOK n F) (hn : n ≤ n') : FOK n' F := fun id k r h1 h2 => Nat.lt_of_lt_of_le (h id k r h1 h2) hn
/-- what is there while objects are made -/
def Mk (D : Dw) (ad : Nat → Nat) (n : Nat) (F : Fl) (I : Mem) (A : Nat → Prop) (H0 H : Heap) (locs : List Loc) : Prop :=
  va_P D.1 vwCl (wsP n D ad F I) H ∧ va_D A (wsP n D ad F I) ∧ va_S A H0 H locs ∧ FOK n F ∧ okI I
def CxG (own : String) (cc : ByteArray) (nL : Nat) (p : Program) (s : State) (m : MethodId) (args : Array Value) (c : Code) (D : Dw) : Prop :=
  p.tables.exec = Jvm.exec ∧ c.code = cc ∧ c.maxLocals = nL ∧ s.vm.findClass own = some m.cls ∧ (∀ w ∈ gw, w.before args s = true) ∧ va_K D.1 vwCl (tysOf D) s ∧ Nst s ∧ va_AO "OneReturns$Moment" s
