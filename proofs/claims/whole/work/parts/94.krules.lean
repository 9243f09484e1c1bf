/-! A rule for each instruction of the constructors. -/
abbrev Kx : Type := Program × Launch × Env × Room × State × MethodId × Array Value × List Frame × Method × Code × Dw × (Nat → Prop) × Nat × (Nat → Nat) × (State → Prop) × Nat × List (Nat × Value)
abbrev Kx.p (X : Kx) : Program := X.1
abbrev Kx.l (X : Kx) : Launch := X.2.1
abbrev Kx.e (X : Kx) : Env := X.2.2.1
abbrev Kx.R (X : Kx) : Room := X.2.2.2.1
abbrev Kx.s (X : Kx) : State := X.2.2.2.2.1
abbrev Kx.m (X : Kx) : MethodId := X.2.2.2.2.2.1
abbrev Kx.args (X : Kx) : Array Value := X.2.2.2.2.2.2.1
abbrev Kx.below (X : Kx) : List Frame := X.2.2.2.2.2.2.2.1
abbrev Kx.meth (X : Kx) : Method := X.2.2.2.2.2.2.2.2.1
abbrev Kx.c (X : Kx) : Code := X.2.2.2.2.2.2.2.2.2.1
abbrev Kx.D (X : Kx) : Dw := X.2.2.2.2.2.2.2.2.2.2.1
abbrev Kx.A (X : Kx) : (Nat → Prop) := X.2.2.2.2.2.2.2.2.2.2.2.1
abbrev Kx.n0 (X : Kx) : Nat := X.2.2.2.2.2.2.2.2.2.2.2.2.1
abbrev Kx.ad0 (X : Kx) : (Nat → Nat) := X.2.2.2.2.2.2.2.2.2.2.2.2.2.1
abbrev Kx.Qw (X : Kx) : (State → Prop) := X.2.2.2.2.2.2.2.2.2.2.2.2.2.2.1
abbrev Kx.nL (X : Kx) : Nat := X.2.2.2.2.2.2.2.2.2.2.2.2.2.2.2.1
abbrev Kx.E (X : Kx) : List (Nat × Value) := X.2.2.2.2.2.2.2.2.2.2.2.2.2.2.2.2
def KW (X : Kx) (cells slots pc : Nat) (L : List (Nat × AV)) (st : List AV) (n : Nat) (F : Fl) (I : Mem) : Prop :=
  ∀ (ad : Nat → Nat) (H : Heap) (locs : List Loc) (ls : Array Slot), Mk X.D ad n F I X.A X.s.heap H locs → (∀ i, i < X.n0 → ad i = X.ad0 i) → lv_has ls X.nL (X.E ++ cvL ad L) → (∀ q ∈ L, okv n q.2) → (∀ v ∈ st, okv n v) →
    W X.p X.l X.e X.R X.s X.m X.args X.below X.meth X.c H locs cells slots X.Qw (F0 X.m pc ls (st.map (cv ad)))
def KC (X : Kx) (own : String) (cc : ByteArray) : Prop := CxG own cc X.nL X.p X.s X.m X.args X.c X.D ∧ (∀ q, X.s.heap.size ≤ q → X.A q)
theorem okv_up {n n' : Nat} (h : n ≤ n') {v : AV} (hv : okv n v) : okv n' v := by
  rcases v with x | (_ | r)
  · exact hv
  · trivial
  · exact Nat.lt_of_lt_of_le hv h
theorem cv_ad {n : Nat} {ad ad' : Nat → Nat} (ha : ∀ i, i < n → ad' i = ad i) {v : AV} (hv : okv n v) : cv ad' v = cv ad v := by
  rcases v with x | (_ | r)
  · rfl
  · rfl
  · show Value.ref (ad' r) = Value.ref (ad r)
    rw [ha r hv]
theorem cvL_ad {n : Nat} {ad ad' : Nat → Nat} (ha : ∀ i, i < n → ad' i = ad i) {L : List (Nat × AV)} (hL : ∀ q ∈ L, okv n q.2) : cvL ad' L = cvL ad L := by
  unfold cvL
  apply List.map_congr_left
  intro q hq
  rw [cv_ad ha (hL q hq)]
theorem cvS_ad {n : Nat} {ad ad' : Nat → Nat} (ha : ∀ i, i < n → ad' i = ad i) {st : List AV} (hs : ∀ v ∈ st, okv n v) : st.map (cv ad') = st.map (cv ad) := by
  apply List.map_congr_left
  intro v hv
  exact cv_ad ha (hs v hv)
def isRefT : FieldType → Bool
  | .object _ => true
  | .array _ => true
  | _ => false
/-- an object's fields by their types -/
def nchk (id : Nat) : Bool := match vwCl[kd id]? with
  | none => decide (9 ≤ kd id)
  | some r => decide (sz id = r.2.2) && (List.range (sz id)).all (fun k => match rf id k with
    | some _ => isRefT (tyOf (kd id) k)
    | none => decide (tyOf (kd id) k = .int ∨ tyOf (kd id) k = .boolean))
set_option maxRecDepth 100000 in
theorem nchk_all : (List.range N2).all nchk = true := by decide +kernel
theorem lget_atE {L : List (Nat × AV)} {i nL : Nat} {v : AV} {ad : Nat → Nat} {ls : Array Slot} {E : List (Nat × Value)} (h : lget L i = some v) (hl : lv_has ls nL (E ++ cvL ad L)) : ls[i]? = some (.val (cv ad v)) :=
  hl.2.2 (i, cv ad v) (List.mem_append_right _ (List.mem_map.mpr ⟨(i, v), lget_mem h, rfl⟩))
theorem lset_hasE {L : List (Nat × AV)} {i nL : Nat} {v : AV} {ad : Nat → Nat} {ls : Array Slot} {E : List (Nat × Value)} (hE : ∀ q ∈ E, q.1 ≠ i ∧ q.2.category = 1) (hl : lv_has ls nL ((i, cv ad v) :: (E ++ cvL ad L).filter (fun q => !(q.1 == i) && !(q.1 + 1 == i && q.2.category == 2)))) : lv_has ls nL (E ++ cvL ad (lset L i v)) := by
  refine ⟨hl.1, hl.2.1, fun q hq => ?_⟩
  have key : ∀ q0 : Nat × Value, q0 ∈ E ++ cvL ad L → q0.1 ≠ i → q0.2.category = 1 → q0 ∈ (E ++ cvL ad L).filter (fun q => !(q.1 == i) && !(q.1 + 1 == i && q.2.category == 2)) := by
    intro q0 h0 h1 h2
    refine List.mem_filter.mpr ⟨h0, ?_⟩
    have hc : (q0.2.category == 2) = false := by rw [h2]; rfl
    simp only [hc, Bool.and_false, Bool.not_false, Bool.and_true, Bool.not_eq_true', beq_eq_false_iff_ne, ne_eq]
    exact h1
  rcases List.mem_append.mp hq with hq | hq
  · exact hl.2.2 _ (List.mem_cons_of_mem _ (key q (List.mem_append_left _ hq) (hE q hq).1 (hE q hq).2))
  · obtain ⟨q0, h0, rfl⟩ := List.mem_map.mp hq
    rcases lset_mem h0 with rfl | ⟨h1, h2⟩
    · exact hl.2.2 _ List.mem_cons_self
    · exact hl.2.2 _ (List.mem_cons_of_mem _ (key _ (List.mem_append_right _ (List.mem_map.mpr ⟨q0, h1, rfl⟩)) h2 (cat1 ad q0.2)))
section KRules
variable {X : Kx} {own : String} {cc : ByteArray} {cells slots pc : Nat} {L : List (Nat × AV)} {st : List AV} {n : Nat} {F : Fl} {I : Mem}
theorem K_iconst {v : Int} (C : KC X own cc) (hd : decode cc pc = .ok (.iconst v, 1)) (hn : inR v) (h : KW X cells slots (pc + 1) L (.inl v :: st) n F I) : KW X cells slots pc L st n F I := by
  intro ad H locs ls hM ha hl oL oS
  exact lv_iconst C.1.1 C.1.2.1 hd rfl (h ad H locs ls hM ha hl oL (List.forall_mem_cons.mpr ⟨hn, oS⟩))
theorem K_bipush {v : Int} (C : KC X own cc) (hd : decode cc pc = .ok (.bipush v, 2)) (h1 : -128 ≤ v) (h2 : v < 128) (h : KW X cells slots (pc + 2) L (.inl v :: st) n F I) : KW X cells slots pc L st n F I := by
  intro ad H locs ls hM ha hl oL oS
  exact lv_bipush C.1.1 C.1.2.1 hd (i8_32 h1 h2) (h ad H locs ls hM ha hl oL (List.forall_mem_cons.mpr ⟨by show inR v; unfold inR; omega, oS⟩))
theorem K_sipush {v : Int} (C : KC X own cc) (hd : decode cc pc = .ok (.sipush v, 3)) (h1 : -32768 ≤ v) (h2 : v < 32768) (h : KW X cells slots (pc + 3) L (.inl v :: st) n F I) : KW X cells slots pc L st n F I := by
  intro ad H locs ls hM ha hl oL oS
  exact lv_sipush C.1.1 C.1.2.1 hd (i16_32 h1 h2) (h ad H locs ls hM ha hl oL (List.forall_mem_cons.mpr ⟨by show inR v; unfold inR; omega, oS⟩))
theorem K_iload_n {i : Fin 4} {x : Int} (C : KC X own cc) (hd : decode cc pc = .ok (.iload_n i, 1)) (hg : lget L i.val = some (.inl x)) (h : KW X cells slots (pc + 1) L (.inl x :: st) n F I) : KW X cells slots pc L st n F I := by
  intro ad H locs ls hM ha hl oL oS
  exact lv_iload_n C.1.1 C.1.2.1 hd rfl (lget_atE hg hl) (h ad H locs ls hM ha hl oL (List.forall_mem_cons.mpr ⟨lget_ok hg oL, oS⟩))
theorem K_aload_n {i : Fin 4} {r : Nat} (C : KC X own cc) (hd : decode cc pc = .ok (.aload_n i, 1)) (hg : lget L i.val = some (.inr (some r))) (h : KW X cells slots (pc + 1) L (.inr (some r) :: st) n F I) : KW X cells slots pc L st n F I := by
  intro ad H locs ls hM ha hl oL oS
  exact lv_aload_n C.1.1 C.1.2.1 hd rfl (lget_atE hg hl) (h ad H locs ls hM ha hl oL (List.forall_mem_cons.mpr ⟨lget_ok hg oL, oS⟩))
theorem K_istore_n {i : Fin 4} {x : Int} (C : KC X own cc) (hd : decode cc pc = .ok (.istore_n i, 1)) (hi : i.val < X.nL) (hE : ∀ q ∈ X.E, q.1 ≠ i.val ∧ q.2.category = 1) (h : KW X cells slots (pc + 1) (lset L i.val (.inl x)) st n F I) : KW X cells slots pc L (.inl x :: st) n F I := by
  intro ad H locs ls hM ha hl oL oS
  obtain ⟨ox, oS⟩ := List.forall_mem_cons.mp oS
  exact lv_istore_n C.1.1 C.1.2.1 hd rfl hl hi rfl (fun ls' hl' => h ad H locs ls' hM ha (lset_hasE hE hl') (lset_ok ox oL) oS)
theorem K_astore_n {i : Fin 4} {r : Nat} (C : KC X own cc) (hd : decode cc pc = .ok (.astore_n i, 1)) (hi : i.val < X.nL) (hE : ∀ q ∈ X.E, q.1 ≠ i.val ∧ q.2.category = 1) (h : KW X cells slots (pc + 1) (lset L i.val (.inr (some r))) st n F I) : KW X cells slots pc L (.inr (some r) :: st) n F I := by
  intro ad H locs ls hM ha hl oL oS
  obtain ⟨ox, oS⟩ := List.forall_mem_cons.mp oS
  exact lv_astore_n C.1.1 C.1.2.1 hd rfl hl hi rfl (fun ls' hl' => h ad H locs ls' hM ha (lset_hasE hE hl') (lset_ok ox oL) oS)
theorem K_iinc {i : Nat} {v x : Int} (C : KC X own cc) (hd : decode cc pc = .ok (.iinc i v, 3)) (hi : i < X.nL) (hE : ∀ q ∈ X.E, q.1 ≠ i ∧ q.2.category = 1) (hg : lget L i = some (.inl x)) (h : KW X cells slots (pc + 3) (lset L i (.inl (wrap (x + v)))) st n F I) : KW X cells slots pc L st n F I := by
  intro ad H locs ls hM ha hl oL oS
  have hm : (i, cv ad (.inl x)) ∈ X.E ++ cvL ad L := List.mem_append_right _ (List.mem_map.mpr ⟨(i, .inl x), lget_mem hg, rfl⟩)
  obtain ⟨kk, hkk⟩ := List.getElem?_of_mem hm
  exact lv_iinc C.1.1 C.1.2.1 hd hl (k := kk) (x := Int32.ofInt x) hkk (v := Int32.ofInt (wrap (x + v))) (wadd x v) hi rfl (fun ls' hl' => h ad H locs ls' hM ha (lset_hasE hE hl') (lset_ok (inR_wrap _) oL) oS)
theorem K_dup {v : AV} (C : KC X own cc) (hd : decode cc pc = .ok (.dup, 1)) (h : KW X cells slots (pc + 1) L (v :: v :: st) n F I) : KW X cells slots pc L (v :: st) n F I := by
  intro ad H locs ls hM ha hl oL oS
  exact lv_dup C.1.1 C.1.2.1 hd (cat1 ad v) (h ad H locs ls hM ha hl oL (List.forall_mem_cons.mpr ⟨(List.forall_mem_cons.mp oS).1, oS⟩))
theorem K_goto {off : Int} {tgt : Nat} (C : KC X own cc) (hd : decode cc pc = .ok (.goto off, 3)) (ht : (pc : Int) + off = (tgt : Int)) (h : KW X cells slots tgt L st n F I) : KW X cells slots pc L st n F I := by
  intro ad H locs ls hM ha hl oL oS
  exact lv_goto C.1.1 C.1.2.1 hd ht (h ad H locs ls hM ha hl oL oS)
theorem K_ge {a b off : Int} {tgt : Nat} (C : KC X own cc) (hd : decode cc pc = .ok (.if_icmp .ge off, 3)) (ht : (pc : Int) + off = (tgt : Int)) (h1 : b ≤ a → KW X cells slots tgt L st n F I) (h2 : ¬ b ≤ a → KW X cells slots (pc + 3) L st n F I) : KW X cells slots pc L (.inl b :: .inl a :: st) n F I := by
  intro ad H locs ls hM ha hl oL oS
  obtain ⟨ob, oS⟩ := List.forall_mem_cons.mp oS
  obtain ⟨oa, oS⟩ := List.forall_mem_cons.mp oS
  have ob : inR b := ob
  have oa : inR a := oa
  exact lv_icmp_ge C.1.1 C.1.2.1 hd ht (fun hc => h1 ((ofInt_le ob oa).mp hc) ad H locs ls hM ha hl oL oS) (fun hc => h2 (fun q => hc ((ofInt_le ob oa).mpr q)) ad H locs ls hM ha hl oL oS)
theorem K_obj {idx id : Nat} (C : KC X own cc) (hd : decode cc pc = .ok (.invokespecial idx, 3)) (hlink : Cond.methodLink own idx Lib.objectInit ∈ gw) (hrm : 1 ≤ X.R.frames ∧ 20 ≤ X.R.locals ∨ 1 ≤ X.R.frames ∧ 12 ≤ X.R.locals ∧ st = []) (h8 : st.length ≤ 8) (h : KW X cells slots (pc + 3) L st n F I) : KW X cells slots pc L (.inr (some id) :: st) n F I := by
  intro ad H locs ls hM ha hl oL oS
  have hts := C.1.2.2.2.2.1
  have hk : 2 * (F0 X.m pc ls (.ref (ad id) :: st.map (cv ad))).monitorRoom + ((st.map (cv ad)).map fun v => v.category).sum ≤ st.length := by
    have : (F0 X.m pc ls (.ref (ad id) :: st.map (cv ad))).monitorRoom = 0 := rfl
    rw [this, cat_sum]
    omega
  refine W.objInit C.1.1 C.1.2.1 C.1.2.2.2.1 (hts _ hlink) (hts _ kwords.2.2.2) (hts _ kwords.2.2.1) rfl (hl.1.trans C.1.2.2.1.symm) (g := F0 X.m pc ls (.ref (ad id) :: st.map (cv ad))) rfl hd (by omega) ?_ (h ad H locs ls hM ha hl oL (List.forall_mem_cons.mp oS).2)
  rcases hrm with hrm | ⟨-, hrm, h0⟩
  · omega
  · have h00 : st.length = 0 := by rw [h0]; rfl
    omega
end KRules
