/-! The two objects as their constructors leave them. -/
def H0p : List Hd := [(48, 0, 0)]
def Sta0 : Sta := ((H0p, 0, 0), (0, fun _ => (H0p, 0, 0)), ((fun _ => false), fun _ => (H0p, 0, 0)), [], (0, (fun _ => 0), fun _ => 0), 0)
def Zm : Mem := fun _ _ => 0
def resX : Option Rs := kx 0 400 7 0 [(0, .inr (some 0))] [] S0k
def FX : Fl := match resX with
  | some r => r.2.2.2.2.1
  | none => []
def resM : Option Rs := kx 77 400 8 0 [(0, .inr (some 77))] [] (78, FX, [], 0, 0)
def FM : Fl := match resM with
  | some r => r.2.2.2.2.1
  | none => []
def fullF (N : Nat) (F : Fl) : Bool := (List.range N).all (fun id => match nth gt id with
  | some q => (List.range q.2.2.length).all (fun k => match rf id k with
    | some _ => inF F id k
    | none => true)
  | none => true)
theorem fullF_spec {N : Nat} {F : Fl} (h : fullF N F = true) : FAll N F := by
  intro id k r hid hr
  have h1 := List.all_eq_true.mp h id (List.mem_range.mpr hid)
  have hr2 := hr
  unfold rf at hr2
  cases hg : nth gt id with
  | none => rw [hg] at hr2; cases hr2
  | some q =>
    rw [hg] at hr2 h1
    dsimp only at hr2 h1
    cases hk : nth q.2.2 k with
    | none => rw [hk] at hr2; cases hr2
    | some r0 =>
      rw [nth_eq] at hk
      have h2 := List.all_eq_true.mp h1 k (List.mem_range.mpr (List.getElem?_eq_some_iff.mp hk).1)
      rw [hr] at h2
      exact h2
def isThis (st : List AV) (x : Nat) : Bool := match st with
  | [.inr (some a)] => Nat.beq a x
  | _ => false
theorem isThis_spec {st : List AV} {x : Nat} (h : isThis st x = true) : st = [.inr (some x)] := by
  unfold isThis at h
  split at h
  · rw [Nat.eq_of_beq_eq_true h]
  · cases h
def lowU (U : Up) : Bool := U.all (fun q => Nat.blt q.1 77)
theorem lowU_spec {U : Up} (h : lowU U = true) : Zr 77 (iof Zm U) := by
  intro id k hid
  refine freshU_0 ?_ (fun _ => rfl) k
  unfold freshU
  unfold lowU at h
  rw [List.all_eq_true] at h ⊢
  intro q hq
  have h1 := Nat.le_of_ble_eq_true (h q hq)
  cases hb : Nat.beq q.1 id with
  | false => rfl
  | true => have := Nat.eq_of_beq_eq_true hb; omega
def memX (I : Mem) : Bool := decide (I 7 1 = 1) && decide (I 8 0 = 48) && decide (I 7 2 = 0) && decide (I 7 3 = 0) && decide (I 51 2 = 0) && decide (I 51 1 = 0) && decide (I 74 0 = 0) && decide (I 74 1 = 0) && decide (I 0 1 = 0) && decide (I 0 13 = 0) && decide (I 0 14 = 0)
def okX (r : Rs) : Bool := Nat.beq r.1 160 && isThis r.2.2.1 0 && Nat.beq r.2.2.2.1 77 && fullF 77 r.2.2.2.2.1 && lowU r.2.2.2.2.2.1 && memX (iof Zm r.2.2.2.2.2.1) && Nat.ble r.2.2.2.2.2.2.1 76 && Nat.ble r.2.2.2.2.2.2.2 3965
theorem chkX : (match resX with
  | some r => okX r
  | none => false) = true := by decide +kernel
def okM (r : Rs) : Bool := Nat.beq r.1 290 && isThis r.2.2.1 77 && Nat.beq r.2.2.2.1 111 && fullF 111 r.2.2.2.2.1 && decide (r.2.2.2.2.2.1 = [(79, 60, 1), (79, 0, 48)]) && Nat.ble r.2.2.2.2.2.2.1 33 && Nat.ble r.2.2.2.2.2.2.2 3752
theorem chkM : (match resM with
  | some r => okM r
  | none => false) = true := by decide +kernel
theorem chkF : freshF 77 FX = true := by decide +kernel
theorem tk0 : tk H0p = [48] := by decide +kernel
