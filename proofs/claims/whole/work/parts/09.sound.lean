/-! wseg is sound. -/
def mdRoom (d : Md) : Nat × Nat := (d.2.2.2.2.2.1, d.2.2.2.2.2.2)
def roomOk (d : Md) (a : Nat) : Bool := decide ((mRm a).frames + 1 ≤ d.2.2.2.2.2.1) && decide (8 + (mL a + 11) + (mRm a).locals ≤ d.2.2.2.2.2.2)
def okI2 (d : Md) (e : Ent) : Bool := match e.2.1 with
  | .iconst n => e.2.2.1 == 1 && decide (-2147483648 ≤ n) && decide (n < 2147483648)
  | .bipush n => e.2.2.1 == 2 && decide (-128 ≤ n) && decide (n < 128)
  | .sipush n => e.2.2.1 == 3 && decide (-32768 ≤ n) && decide (n < 32768)
  | .iload_n _ | .aload_n _ | .iadd | .isub | .imul | .iand | .ior | .ixor | .ishl | .irem | .dup | .dup2 | .pop | .aconst_null | .arraylength | .iaload | .baload | .aaload | .iastore | .bastore | .areturn => e.2.2.1 == 1
  | .iload _ | .aload _ => e.2.2.1 == 2
  | .istore_n i => e.2.2.1 == 1 && decide (i.val < d.2.2.1)
  | .astore_n i => e.2.2.1 == 1 && decide (i.val < d.2.2.1)
  | .istore i => e.2.2.1 == 2 && decide (i < d.2.2.1)
  | .iinc i _ => e.2.2.1 == 3 && decide (i < d.2.2.1)
  | .goto off | .ifnull off | .ifnonnull off | .if_icmp _ off | .ifCond _ off => e.2.2.1 == 3 && decide ((e.1 : Int) + off = (e.2.2.2.1 : Int))
  | .tableswitch df lo hi offs => decide (hi = lo + offs.size - 1) && (df :: offs.toList).all (fun o => decide (0 ≤ (e.1 : Int) + o))
  | .lookupswitch df ps => (ps.toList.zip (ps.toList.drop 1)).all (fun (a, next) => a.1 < next.1) && (df :: ps.toList.map (fun q => q.2)).all (fun o => decide (0 ≤ (e.1 : Int) + o))
  | .getfield idx => e.2.2.1 == 3 && ftab.any (fun q => Nat.beq q.1 d.2.2.2.2.1 && Nat.beq q.2.1 idx && Nat.beq q.2.2.1 e.2.2.2.1 && Nat.beq q.2.2.2.1 e.2.2.2.2.1)
  | .putfield idx => e.2.2.1 == 3 && ftab.any (fun q => Nat.beq q.1 d.2.2.2.2.1 && Nat.beq q.2.1 idx && Nat.beq q.2.2.1 e.2.2.2.1 && Nat.beq q.2.2.2.1 e.2.2.2.2.1) &&
      (match vwCl[e.2.2.2.1]? with
        | some r => !(r.2.1 e.2.2.2.2.1).2.2.2
        | none => false) && (match e.2.2.2.2.2 with
        | 0 => decide (tyOf e.2.2.2.1 e.2.2.2.2.1 = .int)
        | 1 => decide (tyOf e.2.2.2.1 e.2.2.2.2.1 = .boolean)
        | _ => false)
  | .ireturn => e.2.2.1 == 1 && (match e.2.2.2.2.2 with
        | 1 => decide (d.2.2.2.1 = some .int)
        | 2 => decide (d.2.2.2.1 = some .boolean)
        | _ => false)
  | .return_ => e.2.2.1 == 1 && decide (d.2.2.2.1 = none)
  | .invokestatic idx => e.2.2.1 == 3 && (match Nat.ble 1000 e.2.2.2.1 with
        | true => mtab.any (fun q => Nat.beq q.1 d.2.2.2.2.1 && Nat.beq q.2.1 idx && Nat.beq q.2.2.1 e.2.2.2.1) && decide (1 ≤ d.2.2.2.2.2.1) && decide (21 ≤ d.2.2.2.2.2.2)
        | false => ctab.any (fun q => Nat.beq q.1 d.2.2.2.2.1 && Nat.beq q.2.1 idx && Nat.beq q.2.2.1 e.2.2.2.1) && (mP e.2.2.2.1).2.2.2.2.1 && decide (e.2.2.2.2.1 = (mP e.2.2.2.1).2.2.2.2.2) && decide (e.2.2.2.2.1 ≤ mL e.2.2.2.1) && roomOk d e.2.2.2.1)
  | .invokevirtual idx => e.2.2.1 == 3 && ctab.any (fun q => Nat.beq q.1 d.2.2.2.2.1 && Nat.beq q.2.1 idx && Nat.beq q.2.2.1 e.2.2.2.1 && Nat.beq q.2.2.2.1 0) && !(mP e.2.2.2.1).2.2.2.2.1 && decide (e.2.2.2.2.1 = (mP e.2.2.2.1).2.2.2.2.2 + 1) && decide (e.2.2.2.2.1 ≤ mL e.2.2.2.1) && roomOk d e.2.2.2.1 && (match vwCl[e.2.2.2.2.2 / 10]? with
        | some r => decide (r.1 = (mY e.2.2.2.1).cls)
        | none => false)
  | _ => false
def okEnt (d : Md) (e : Ent) : Bool := decide (decode d.2.1 e.1 = .ok (e.2.1, e.2.2.1)) && okI2 d e
def PrimOk (prim : Prim) : Prop := ∀ k as I t, prim k as I = some t → ∀ X : Prop, t.1 X → X ∧ R k 0 (enumL 0 as) [] I (fun r I' => r = t.2.1 ∧ I' = t.2.2)
theorem findE_spec {mt : List Ent} {pc : Nat} {e : Ent} (h : findE mt pc = some e) : e ∈ mt ∧ e.1 = pc := by
  induction mt with
  | nil => cases h
  | cons x l ih =>
    unfold findE at h
    cases hb : Nat.beq pc x.1 with
    | true => rw [hb] at h; cases h; exact ⟨List.mem_cons_self, (Nat.eq_of_beq_eq_true hb).symm⟩
    | false => rw [hb] at h; exact ⟨List.mem_cons_of_mem _ (ih h).1, (ih h).2⟩
theorem lkeep_mem {L : List (Nat × AV)} {ks : List Nat} {q : Nat × AV} (h : q ∈ lkeep L ks) : q ∈ L := by
  induction L with
  | nil => cases h
  | cons x l ih =>
    unfold lkeep at h
    split at h
    · rcases List.mem_cons.mp h with rfl | h
      · exact List.mem_cons_self
      · exact List.mem_cons_of_mem _ (ih h)
    · exact List.mem_cons_of_mem _ (ih h)
theorem popN_spec : ∀ (n : Nat) (as st as' rest : List AV), popN n as st = some (as', rest) → ∃ bs : List AV, bs.length = n ∧ as' = bs ++ as ∧ st = bs.reverse ++ rest := by
  intro n
  induction n with
  | zero => intro as st as' rest h; cases h; exact ⟨[], rfl, rfl, rfl⟩
  | succ n ih =>
    intro as st as' rest h
    cases st with
    | nil => cases h
    | cons v st =>
      obtain ⟨bs, h1, h2, h3⟩ := ih (v :: as) st as' rest h
      refine ⟨bs ++ [v], by simp [h1], by rw [h2]; simp, ?_⟩
      rw [h3]
      simp
theorem ftab_any {o idx a b : Nat} (h : ftab.any (fun q => Nat.beq q.1 o && Nat.beq q.2.1 idx && Nat.beq q.2.2.1 a && Nat.beq q.2.2.2.1 b) = true) : ∃ pl, (o, idx, a, b, pl) ∈ ftab := by
  obtain ⟨⟨q1, q2, q3, q4, q5⟩, hm, hq⟩ := List.any_eq_true.mp h
  simp only [Bool.and_eq_true] at hq
  obtain ⟨⟨⟨h1, h2⟩, h3⟩, h4⟩ := hq
  rw [Nat.eq_of_beq_eq_true h1, Nat.eq_of_beq_eq_true h2, Nat.eq_of_beq_eq_true h3, Nat.eq_of_beq_eq_true h4] at hm
  exact ⟨q5, hm⟩
theorem ctab_any {o idx a : Nat} (h : ctab.any (fun q => Nat.beq q.1 o && Nat.beq q.2.1 idx && Nat.beq q.2.2.1 a) = true) : ∃ nest pl, (o, idx, a, nest, pl) ∈ ctab := by
  obtain ⟨⟨q1, q2, q3, q4, q5⟩, hm, hq⟩ := List.any_eq_true.mp h
  simp only [Bool.and_eq_true] at hq
  obtain ⟨⟨h1, h2⟩, h3⟩ := hq
  rw [Nat.eq_of_beq_eq_true h1, Nat.eq_of_beq_eq_true h2, Nat.eq_of_beq_eq_true h3] at hm
  exact ⟨q4, q5, hm⟩
theorem ctab_any0 {o idx a : Nat} (h : ctab.any (fun q => Nat.beq q.1 o && Nat.beq q.2.1 idx && Nat.beq q.2.2.1 a && Nat.beq q.2.2.2.1 0) = true) : ∃ pl, (o, idx, a, 0, pl) ∈ ctab := by
  obtain ⟨⟨q1, q2, q3, q4, q5⟩, hm, hq⟩ := List.any_eq_true.mp h
  simp only [Bool.and_eq_true] at hq
  obtain ⟨⟨⟨h1, h2⟩, h3⟩, h4⟩ := hq
  rw [Nat.eq_of_beq_eq_true h1, Nat.eq_of_beq_eq_true h2, Nat.eq_of_beq_eq_true h3, Nat.eq_of_beq_eq_true h4] at hm
  exact ⟨q5, hm⟩
theorem mtab_any {o idx a : Nat} (h : mtab.any (fun q => Nat.beq q.1 o && Nat.beq q.2.1 idx && Nat.beq q.2.2.1 a) = true) : ∃ pl, (o, idx, a, pl) ∈ mtab := by
  obtain ⟨⟨q1, q2, q3, q5⟩, hm, hq⟩ := List.any_eq_true.mp h
  simp only [Bool.and_eq_true] at hq
  obtain ⟨⟨h1, h2⟩, h3⟩ := hq
  rw [Nat.eq_of_beq_eq_true h1, Nat.eq_of_beq_eq_true h2, Nat.eq_of_beq_eq_true h3] at hm
  exact ⟨q5, hm⟩
section SW
variable {k pc : Nat} {L : List (Nat × AV)} {st : List AV} {I : Mem} {Q : Post}
theorem R_table {d lo hi x : Int} {offs : Array Int} {len : Nat} (hd : decode (mC k) pc = .ok (.tableswitch d lo hi offs, len)) (hhi : hi = lo + offs.size - 1) (hnn : ∀ o ∈ d :: offs.toList, 0 ≤ (pc : Int) + o)
    (h : swT (fun o => ((pc : Int) + o).toNat) (fun t => R k t L st I Q) x lo offs.toList d) : R k pc L (.inl x :: st) I Q := by
  have key : ∀ (os : List Int) (l0 : Int), swT (fun o => ((pc : Int) + o).toNat) (fun t => R k t L st I Q) x l0 os d →
      ((x < l0 ∨ l0 + os.length ≤ x) → R k ((pc : Int) + d).toNat L st I Q) ∧ ∀ (j : Nat) (o : Int), os[j]? = some o → x = l0 + j → R k ((pc : Int) + o).toNat L st I Q := by
    intro os
    induction os with
    | nil => intro l0 h; exact ⟨fun _ => h, fun j o hj => by simp at hj⟩
    | cons o os ih =>
      intro l0 h
      obtain ⟨h1, h2⟩ := h
      refine ⟨fun hx => ?_, fun j o' hj hx => ?_⟩
      · have hne : ¬ x = l0 := by
          rcases hx with hx | hx
          · omega
          · simp only [List.length_cons] at hx; omega
        refine (ih (l0 + 1) (h2 hne)).1 ?_
        rcases hx with hx | hx
        · left; omega
        · right; simp only [List.length_cons] at hx; omega
      · cases j with
        | zero =>
          simp at hj
          subst hj
          exact h1 (by omega)
        | succ j =>
          rw [List.getElem?_cons_succ] at hj
          exact (ih (l0 + 1) (h2 (by omega))).2 j o' hj (by omega)
  obtain ⟨k1, k2⟩ := key _ _ h
  intro l p e s m args below meth c N D ad C F H locs ls hP hS hl oL oS oI
  obtain ⟨ox, oT⟩ := List.forall_mem_cons.mp oS
  have ox : inR x := ox
  by_cases hout : x < lo ∨ hi < x
  · refine lv_tableOut (tgt := ((pc : Int) + d).toNat) C.1 C.2.1 hd (by rw [toI ox]; exact hout) (by have := hnn d List.mem_cons_self; omega) ?_
    exact k1 (by rw [hhi] at hout; rcases hout with h | h; left; exact h; right; simp only [Array.length_toList]; omega) l p e s m args below meth c N D ad C F H locs ls hP hS hl oL oT oI
  · have hlt : (x - lo).toNat < offs.toList.length := by rw [hhi] at hout; simp only [Array.length_toList]; omega
    have ho : offs.toList[(x - lo).toNat]? = some (offs.toList[(x - lo).toNat]) := List.getElem?_eq_getElem hlt
    have hm := hnn _ (List.mem_cons_of_mem _ (List.mem_of_getElem? ho))
    generalize offs.toList[(x - lo).toNat] = o at ho hm
    refine lv_tableIn (tgt := ((pc : Int) + o).toNat) (off := o) C.1 C.2.1 hd (by rw [toI ox]; omega) (by rw [toI ox]; omega) (by rw [toI ox, ← Array.getElem?_toList]; exact ho) (by omega) ?_
    exact k2 _ o ho (by omega) l p e s m args below meth c N D ad C F H locs ls hP hS hl oL oT oI
theorem R_lookup {d x : Int} {ps : Array (Int × Int)} {len : Nat} (hd : decode (mC k) pc = .ok (.lookupswitch d ps, len)) (hp : (ps.toList.zip (ps.toList.drop 1)).all (fun (a, next) => a.1 < next.1) = true) (hnn : ∀ o ∈ d :: ps.toList.map (fun q => q.2), 0 ≤ (pc : Int) + o)
    (h : swL (fun o => ((pc : Int) + o).toNat) (fun t => R k t L st I Q) x ps.toList d) : R k pc L (.inl x :: st) I Q := by
  have key : ∀ (os : List (Int × Int)), (∀ o ∈ d :: os.map (fun q => q.2), 0 ≤ (pc : Int) + o) → swL (fun o => ((pc : Int) + o).toNat) (fun t => R k t L st I Q) x os d →
      0 ≤ (pc : Int) + Op.lookupswitch.offset os d x ∧ R k ((pc : Int) + Op.lookupswitch.offset os d x).toNat L st I Q := by
    intro os
    induction os with
    | nil => intro hn h; exact ⟨hn d List.mem_cons_self, h⟩
    | cons o os ih =>
      intro hn h
      obtain ⟨h1, h2⟩ := h
      obtain ⟨o1, o2⟩ := o
      rw [Op.lookupswitch.offset_cons]
      by_cases he : x = o1
      · rw [if_pos he.symm]
        exact ⟨hn o2 (by simp), h1 he⟩
      · rw [if_neg (fun q => he q.symm)]
        exact ih (fun o ho => hn o (by
          rcases List.mem_cons.mp ho with rfl | ho
          · exact List.mem_cons_self
          · exact List.mem_cons_of_mem _ (by simp only [List.map_cons]; exact List.mem_cons_of_mem _ ho))) (h2 he)
  obtain ⟨k1, k2⟩ := key _ hnn h
  intro l p e s m args below meth c N D ad C F H locs ls hP hS hl oL oS oI
  obtain ⟨ox, oT⟩ := List.forall_mem_cons.mp oS
  have ox : inR x := ox
  refine lv_lookup (tgt := ((pc : Int) + Op.lookupswitch.offset ps.toList d x).toNat) C.1 C.2.1 hd hp rfl ?_ ?_
  · rw [toI ox]; omega
  · exact k2 l p e s m args below meth c N D ad C F H locs ls hP hS hl oL oT oI
end SW
