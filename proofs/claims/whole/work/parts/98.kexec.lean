/-! The constructors, run by reduction. -/
abbrev CS : Type := Nat × Fl × Up × Nat × Nat
abbrev Rs : Type := Nat × List (Nat × AV) × List AV × CS
abbrev Rc : Type := Nat → Nat → List (Nat × AV) → List AV → CS → Option Rs
def freshU (n : Nat) (U : Up) : Bool := U.all (fun q => !Nat.beq q.1 n)
def freshF (n : Nat) (F : Fl) : Bool := F.all (fun q => !Nat.beq q.1 n)
def newOk (lo : Nat) (d : Kd) (S : CS) : Bool := Nat.ble lo S.1 && Nat.blt S.1 N2 && Nat.ble (sz S.1) 1000 && freshU S.1 S.2.2.1 && freshF S.1 S.2.1 && Nat.ble (S.2.2.2.1 + 1) d.2.2.2.1.2.1 && Nat.ble (S.2.2.2.2 + sz S.1) d.2.2.2.1.2.2.1
def newS (S : CS) : CS := (S.1 + 1, S.2.1, S.2.2.1, S.2.2.2.1 + 1, S.2.2.2.2 + sz S.1)
def isRet (j pc : Nat) : Bool := match findE (kT j) pc with
  | some e => (match e.2.1 with
    | .return_ => true
    | _ => false)
  | none => false
def kst (lo : Nat) (rec : Rc) (j : Nat) (e : Ent) (L : List (Nat × AV)) (st : List AV) (S : CS) : Option Rs :=
  match e.2.1 with
  | .return_ => some (e.1, L, st, S)
  | .invokevirtual _ => some (e.1, L, st, S)
  | .iconst v => rec j (e.1 + 1) L (.inl v :: st) S
  | .bipush v => rec j (e.1 + 2) L (.inl v :: st) S
  | .sipush v => rec j (e.1 + 3) L (.inl v :: st) S
  | .iload_n i => (match lget L i.val with
    | some (.inl x) => rec j (e.1 + 1) L (.inl x :: st) S
    | _ => none)
  | .aload_n i => (match lget L i.val with
    | some (.inr (some r)) => rec j (e.1 + 1) L (.inr (some r) :: st) S
    | _ => none)
  | .istore_n i => (match st with
    | .inl x :: t => rec j (e.1 + 1) (lset L i.val (.inl x)) t S
    | _ => none)
  | .iinc i v => (match lget L i with
    | some (.inl x) => rec j (e.1 + 3) (lset L i (.inl (wrap (x + v)))) st S
    | _ => none)
  | .dup => (match st with
    | v :: t => rec j (e.1 + 1) L (v :: v :: t) S
    | _ => none)
  | .goto _ => rec j e.2.2.2.1 L st S
  | .if_icmp cnd _ => (match cnd, st with
    | .ge, .inl b :: .inl a :: t => if b ≤ a then rec j e.2.2.2.1 L t S else rec j (e.1 + 3) L t S
    | _, _ => none)
  | .new _ => (match newOk lo (kdOf j) S && Nat.beq (kd S.1) e.2.2.2.1 with
    | true => rec j (e.1 + 3) L (.inr (some S.1) :: st) (newS S)
    | false => none)
  | .newarray t => (match st with
    | .inl v :: r => (match newOk lo (kdOf j) S && decide (v = (sz S.1 : Int)) with
      | true => (match t with
        | .int => (match Nat.beq (kd S.1) 20 with
          | true => rec j (e.1 + 2) L (.inr (some S.1) :: r) (newS S)
          | false => none)
        | .boolean => (match Nat.beq (kd S.1) 21 with
          | true => rec j (e.1 + 2) L (.inr (some S.1) :: r) (newS S)
          | false => none)
        | _ => none)
      | false => none)
    | _ => none)
  | .anewarray _ => (match st with
    | .inl v :: r => (match newOk lo (kdOf j) S && decide (v = (sz S.1 : Int)) && Nat.beq (kd S.1) 22 with
      | true => rec j (e.1 + 3) L (.inr (some S.1) :: r) (newS S)
      | false => none)
    | _ => none)
  | .getfield _ => (match st with
    | .inr (some id) :: t => (match rf id e.2.2.2.2.1 with
      | some r => (match Nat.beq (kd id) e.2.2.2.1 && Nat.blt e.2.2.2.2.1 (sz id) && inF S.2.1 id e.2.2.2.2.1 with
        | true => rec j (e.1 + 3) L (.inr (some r) :: t) S
        | false => none)
      | none => none)
    | _ => none)
  | .putfield _ => (match st with
    | .inl v :: .inr (some id) :: t => (match Nat.beq (kd id) e.2.2.2.1 && Nat.beq (kd id) j && Nat.blt e.2.2.2.2.1 (sz id) && (rf id e.2.2.2.2.1).isNone && decide (tyOf (kd id) e.2.2.2.2.1 = .int) with
      | true => rec j (e.1 + 3) L t (S.1, S.2.1, (id, e.2.2.2.2.1, v) :: S.2.2.1, S.2.2.2)
      | false => none)
    | .inr (some r) :: .inr (some id) :: t => (match Nat.beq (kd id) e.2.2.2.1 && Nat.beq (kd id) j && Nat.blt e.2.2.2.2.1 (sz id) && decide (rf id e.2.2.2.2.1 = some r) && isRefT (tyOf (kd id) e.2.2.2.2.1) with
      | true => rec j (e.1 + 3) L t (S.1, (id, e.2.2.2.2.1) :: S.2.1, S.2.2)
      | false => none)
    | _ => none)
  | .iastore => (match st with
    | .inl v :: .inl i :: .inr (some id) :: t => (match Nat.beq (kd id) 20 && decide (0 ≤ i) && decide (i < (sz id : Int)) with
      | true => rec j (e.1 + 1) L t (S.1, S.2.1, (id, i.toNat, v) :: S.2.2.1, S.2.2.2)
      | false => none)
    | _ => none)
  | .aastore => (match st with
    | .inr (some r) :: .inl i :: .inr (some id) :: t => (match Nat.beq (kd id) 22 && decide (0 ≤ i) && decide (i < (sz id : Int)) && Nat.beq (kd r) 3 && decide (rf id i.toNat = some r) with
      | true => rec j (e.1 + 1) L t (S.1, (id, i.toNat) :: S.2.1, S.2.2)
      | false => none)
    | _ => none)
  | .invokespecial _ => (match st with
    | .inr (some id) :: t => (match Nat.beq e.2.2.2.1 99 with
      | true => (match t with
        | [] => rec j (e.1 + 3) L [] S
        | _ => none)
      | false => (match rec e.2.2.2.1 0 [(0, .inr (some id))] [] (S.1, S.2.1, S.2.2.1, 0, 0) with
        | some r => (match r.2.2.1 with
          | [] => (match isRet e.2.2.2.1 r.1 && Nat.ble r.2.2.2.2.2.2.1 (kRm e.2.2.2.1).cells && Nat.ble r.2.2.2.2.2.2.2 (kRm e.2.2.2.1).slots && Nat.ble (S.2.2.2.1 + (kRm e.2.2.2.1).cells) (kdOf j).2.2.2.1.2.1 && Nat.ble (S.2.2.2.2 + (kRm e.2.2.2.1).slots) (kdOf j).2.2.2.1.2.2.1 && Nat.ble t.length 8 with
            | true => rec j (e.1 + 3) L t (r.2.2.2.1, r.2.2.2.2.1, r.2.2.2.2.2.1, S.2.2.2.1 + (kRm e.2.2.2.1).cells, S.2.2.2.2 + (kRm e.2.2.2.1).slots)
            | false => none)
          | _ => none)
        | none => none))
    | _ => none)
  | _ => none
def kx (lo : Nat) : Nat → Rc
  | 0 => fun _ _ _ _ _ => none
  | f + 1 => fun j pc L st S => match findE (kT j) pc with
    | none => none
    | some e => kst lo (kx lo f) j e L st S
def S0k : CS := (1, [], [], 0, 0)
theorem tryMoment : (kx 0 40 3 0 [(0, .inr (some 7))] [] (8, [], [], 0, 0)).isSome = true := by decide +kernel
theorem tryAll : (kx 0 400 7 0 [(0, .inr (some 0))] [] S0k).isSome = true := by decide +kernel
theorem tryM : (kx 77 400 8 0 [(0, .inr (some 77))] [] (78, [], [], 0, 0)).isSome = true := by decide +kernel
