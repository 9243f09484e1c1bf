/-! Stretches of code, run by reduction: wseg ... reduces to what must be shown. -/
def findE : List Ent → Nat → Option Ent
  | [], _ => none
  | e :: l, pc => match Nat.beq pc e.1 with
    | true => some e
    | false => findE l pc
def findC : List (Nat × List Nat) → Nat → Option (List Nat)
  | [], _ => none
  | e :: l, pc => match Nat.beq pc e.1 with
    | true => some e.2
    | false => findC l pc
def lkeep : List (Nat × AV) → List Nat → List (Nat × AV)
  | [], _ => []
  | q :: l, ks => match ks.elem q.1 with
    | true => q :: lkeep l ks
    | false => lkeep l ks
/-- n values off the stack: the arguments, in their order, and the rest -/
def popN : Nat → List AV → List AV → Option (List AV × List AV)
  | 0, as, st => some (as, st)
  | _ + 1, _, [] => none
  | n + 1, as, v :: st => popN n (v :: as) st
def RetB (v : Int) (I : Mem) (Q : Post) : Prop := isB v ∧ Q (some (.inl v)) I
/-- an index within a row -/
def inb (i : Int) (n : Nat) : Prop := 0 ≤ i ∧ i < (n : Int)
abbrev Prim : Type := Nat → List AV → Mem → Option ((Prop → Prop) × Option AV × Mem)
abbrev Cont : Type := Nat → List (Nat × AV) → List AV → Mem → Prop
def swT (tgt : Int → Nat) (c : Nat → Prop) (x : Int) : Int → List Int → Int → Prop
  | _, [], d => c (tgt d)
  | lo, o :: os, d => (x = lo → c (tgt o)) ∧ (¬ x = lo → swT tgt c x (lo + 1) os d)
def swL (tgt : Int → Nat) (c : Nat → Prop) (x : Int) : List (Int × Int) → Int → Prop
  | [], d => c (tgt d)
  | q :: qs, d => (x = q.1 → c (tgt q.2)) ∧ (¬ x = q.1 → swL tgt c x qs d)
def wcall (prim : Prim) (k : Nat) (Q : Post) (e : Ent) (c : Cont) (L : List (Nat × AV)) (st : List AV) (I : Mem) : Prop :=
  match popN e.2.2.2.2.1 [] st with
  | none => False
  | some (as, rest) => match Nat.ble rest.length 8 with
    | false => False
    | true => match prim e.2.2.2.1 as I with
      | some t => t.1 (c (e.1 + 3) L (t.2.1.toList ++ rest) t.2.2)
      | none => match e.2.2.2.2.2 % 10 with
        | 0 => R e.2.2.2.1 0 (enumL 0 as) [] I (fun r I' => r = none ∧ c (e.1 + 3) L rest I')
        | 3 => R e.2.2.2.1 0 (enumL 0 as) [] I (fun r I' => R k (e.1 + 3) L (r.toList ++ rest) I' Q)
        | _ => R e.2.2.2.1 0 (enumL 0 as) [] I (fun r I' => ∃ v, r = some (.inl v) ∧ c (e.1 + 3) L (.inl v :: rest) I')
def wst (prim : Prim) (k : Nat) (Q : Post) (e : Ent) (c : Cont) (L : List (Nat × AV)) (st : List AV) (I : Mem) : Prop :=
  match e.2.1 with
  | .iconst n => c (e.1 + 1) L (.inl n :: st) I
  | .bipush n => c (e.1 + 2) L (.inl n :: st) I
  | .sipush n => c (e.1 + 3) L (.inl n :: st) I
  | .iload_n i => (match lget L i.val with
    | some (.inl x) => c (e.1 + 1) L (.inl x :: st) I
    | _ => False)
  | .iload i => (match lget L i with
    | some (.inl x) => c (e.1 + 2) L (.inl x :: st) I
    | _ => False)
  | .aload_n i => (match lget L i.val with
    | some (.inr x) => c (e.1 + 1) L (.inr x :: st) I
    | _ => False)
  | .aload i => (match lget L i with
    | some (.inr x) => c (e.1 + 2) L (.inr x :: st) I
    | _ => False)
  | .istore_n i => (match st with
    | .inl x :: r => c (e.1 + 1) (lset L i.val (.inl x)) r I
    | _ => False)
  | .istore i => (match st with
    | .inl x :: r => c (e.1 + 2) (lset L i (.inl x)) r I
    | _ => False)
  | .astore_n i => (match st with
    | .inr x :: r => c (e.1 + 1) (lset L i.val (.inr x)) r I
    | _ => False)
  | .iinc i n => (match lget L i with
    | some (.inl x) => c (e.1 + 3) (lset L i (.inl (wrap (x + n)))) st I
    | _ => False)
  | .iadd => (match st with
    | .inl b :: .inl a :: r => c (e.1 + 1) L (.inl (wrap (a + b)) :: r) I
    | _ => False)
  | .isub => (match st with
    | .inl b :: .inl a :: r => c (e.1 + 1) L (.inl (wrap (a - b)) :: r) I
    | _ => False)
  | .imul => (match st with
    | .inl b :: .inl a :: r => c (e.1 + 1) L (.inl (wrap (a * b)) :: r) I
    | _ => False)
  | .iand => (match st with
    | .inl b :: .inl a :: r => c (e.1 + 1) L (.inl (iand a b) :: r) I
    | _ => False)
  | .ior => (match st with
    | .inl b :: .inl a :: r => c (e.1 + 1) L (.inl (ior a b) :: r) I
    | _ => False)
  | .ixor => (match st with
    | .inl b :: .inl a :: r => c (e.1 + 1) L (.inl (ixor a b) :: r) I
    | _ => False)
  | .ishl => (match st with
    | .inl b :: .inl a :: r => c (e.1 + 1) L (.inl (ishl a b) :: r) I
    | _ => False)
  | .irem => (match st with
    | .inl b :: .inl a :: r => ¬ b = 0 ∧ c (e.1 + 1) L (.inl (irem a b) :: r) I
    | _ => False)
  | .dup => (match st with
    | v :: r => c (e.1 + 1) L (v :: v :: r) I
    | _ => False)
  | .dup2 => (match st with
    | v :: w :: r => c (e.1 + 1) L (v :: w :: v :: w :: r) I
    | _ => False)
  | .pop => (match st with
    | _ :: r => c (e.1 + 1) L r I
    | _ => False)
  | .goto _ => c e.2.2.2.1 L st I
  | .aconst_null => c (e.1 + 1) L (.inr none :: st) I
  | .ifnull _ => (match st with
    | .inr none :: r => c e.2.2.2.1 L r I
    | .inr (some _) :: r => c (e.1 + 3) L r I
    | _ => False)
  | .ifnonnull _ => (match st with
    | .inr none :: r => c (e.1 + 3) L r I
    | .inr (some _) :: r => c e.2.2.2.1 L r I
    | _ => False)
  | .if_icmp cnd _ => (match st with
    | .inl b :: .inl a :: r => (cmpP cnd a b → c e.2.2.2.1 L r I) ∧ (¬ cmpP cnd a b → c (e.1 + 3) L r I)
    | _ => False)
  | .ifCond cnd _ => (match st with
    | .inl a :: r => (cmpP cnd a 0 → c e.2.2.2.1 L r I) ∧ (¬ cmpP cnd a 0 → c (e.1 + 3) L r I)
    | _ => False)
  | .tableswitch d lo _ offs => (match st with
    | .inl x :: r => swT (fun o => ((e.1 : Int) + o).toNat) (fun t => c t L r I) x lo offs.toList d
    | _ => False)
  | .lookupswitch d ps => (match st with
    | .inl x :: r => swL (fun o => ((e.1 : Int) + o).toNat) (fun t => c t L r I) x ps.toList d
    | _ => False)
  | .getfield _ => (match st with
    | .inr (some id) :: r => (match Nat.beq (kd id) e.2.2.2.1 && Nat.blt e.2.2.2.2.1 (sz id) with
      | true => c (e.1 + 3) L (gv I id e.2.2.2.2.1 :: r) I
      | false => False)
    | _ => False)
  | .putfield _ => (match st with
    | .inl v :: .inr (some id) :: r => (match Nat.beq (kd id) e.2.2.2.1 && Nat.blt e.2.2.2.2.1 (sz id) with
      | true => (match rf id e.2.2.2.2.1 with
        | none => (match e.2.2.2.2.2 with
          | 0 => c (e.1 + 3) L r (upd2 I id e.2.2.2.2.1 v)
          | 1 => isB v ∧ c (e.1 + 3) L r (upd2 I id e.2.2.2.2.1 v)
          | _ => False)
        | some _ => False)
      | false => False)
    | _ => False)
  | .iaload => (match st with
    | .inl i :: .inr (some id) :: r => (match Nat.beq (kd id) 20 with
      | true => inb i (sz id) ∧ c (e.1 + 1) L (.inl (I id i.toNat) :: r) I
      | false => False)
    | _ => False)
  | .baload => (match st with
    | .inl i :: .inr (some id) :: r => (match Nat.beq (kd id) 21 with
      | true => inb i (sz id) ∧ c (e.1 + 1) L (.inl (I id i.toNat) :: r) I
      | false => False)
    | _ => False)
  | .iastore => (match st with
    | .inl v :: .inl i :: .inr (some id) :: r => (match Nat.beq (kd id) 20 with
      | true => inb i (sz id) ∧ c (e.1 + 1) L r (upd2 I id i.toNat v)
      | false => False)
    | _ => False)
  | .bastore => (match st with
    | .inl v :: .inl i :: .inr (some id) :: r => (match Nat.beq (kd id) 21 with
      | true => inb i (sz id) ∧ isB v ∧ c (e.1 + 1) L r (upd2 I id i.toNat v)
      | false => False)
    | _ => False)
  | .arraylength => (match st with
    | .inr (some id) :: r => (match Nat.beq (kd id) 20 with
      | true => c (e.1 + 1) L (.inl (sz id : Int) :: r) I
      | false => False)
    | _ => False)
  | .ireturn => (match st with
    | [.inl v] => (match e.2.2.2.2.2 with
      | 1 => Q (some (.inl v)) I
      | 2 => RetB v I Q
      | _ => False)
    | _ => False)
  | .return_ => (match st with
    | [] => Q none I
    | _ => False)
  | .invokestatic _ => (match Nat.beq e.2.2.2.1 1000, Nat.beq e.2.2.2.1 1001 with
    | true, _ => (match st with
      | .inl b :: .inl a :: r => (match Nat.ble r.length 8 with
        | true => c (e.1 + 3) L (.inl (min a b) :: r) I
        | false => False)
      | _ => False)
    | _, true => (match st with
      | .inl b :: .inl a :: r => (match Nat.ble r.length 8 with
        | true => c (e.1 + 3) L (.inl (max a b) :: r) I
        | false => False)
      | _ => False)
    | _, _ => wcall prim k Q e c L st I)
  | .invokevirtual _ => (match popN e.2.2.2.2.1 [] st with
    | some (.inr (some id) :: _, _) => (match Nat.beq (kd id) (e.2.2.2.2.2 / 10) with
      | true => wcall prim k Q e c L st I
      | false => False)
    | _ => False)
  | _ => False
def wseg (prim : Prim) (k : Nat) (mt : List Ent) (cut : List (Nat × List Nat)) (Q : Post) : Nat → Bool → Cont
  | 0, _, pc, L, st, I => R k pc L st I Q
  | g + 1, fst, pc, L, st, I => match (match fst with
      | true => none
      | false => findC cut pc) with
    | some live => R k pc (lkeep L live) st I Q
    | none => match findE mt pc with
      | none => False
      | some e => wst prim k Q e (wseg prim k mt cut Q g false) L st I
