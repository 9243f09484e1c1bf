/-! Rules for fields, rows and calls while objects are made. -/
section KPut
variable {X : Kx} {own : String} {cc : ByteArray} {cells slots pc : Nat} {L : List (Nat × AV)} {st : List AV} {n : Nat} {F : Fl} {I : Mem}
/-- a field's words -/
theorem fword {o idx ci slot pl : Nat} (h : fchk (o, idx, ci, slot, pl) = true) : ∃ r, vwCl[ci]? = some r ∧ slot < r.2.2 ∧ Cond.fieldLink (cnm o) idx r.1 (r.2.1 slot).2.1 (r.2.1 slot).2.2.1 ∈ gw ∧ (r.2.1 slot).1 = r.1 := by
  unfold fchk at h
  cases hv : vwCl[ci]? with
  | none => rw [hv] at h; cases h
  | some r =>
    rw [hv] at h
    simp only [Bool.and_eq_true, decide_eq_true_eq] at h
    exact ⟨r, rfl, h.1.1, gw_of (List.mem_of_getElem? h.1.2) rfl, h.2⟩
theorem K_getR {o idx id slot pl r : Nat} (C : KC X own cc) (ho : cnm o = own) (hd : decode cc pc = .ok (.getfield idx, 3)) (hf : fchk (o, idx, kd id, slot, pl) = true) (hsl : slot < sz id) (hr : rf id slot = some r) (hF1 : inF F id slot = true) (h : KW X cells slots (pc + 3) L (.inr (some r) :: st) n F I) : KW X cells slots pc L (.inr (some id) :: st) n F I := by
  intro ad H locs ls hM ha hl oL oS
  have hM2 := hM
  obtain ⟨hP, hD, hS, hF, oI⟩ := hM2
  obtain ⟨hid, oT⟩ := List.forall_mem_cons.mp oS
  have hid : id < n := hid
  obtain ⟨v, hv, g1, g2, g3⟩ := fword hf
  rw [ho] at g2
  have hts := C.1.2.2.2.2.1
  have hcell : (wsP n X.D ad F I)[id]? = some (ad id, .inr (kd id, (List.range (sz id)).map (slotP ad F I id))) := by rw [wsP_at hid, cellP_obj (vw_lt hv)]
  refine va_get (D := X.D.1) (v := .ref (ad r)) C.1.1 C.1.2.1 hts (cl_ok _ _ hv).1 C.1.2.2.2.1 C.1.2.2.2.2.2.1 hP id hcell hv slot g1 (hts _ g2) (fun x hx => by rw [g3] at hx; exact hx) ?_ hd ?_
  · rw [List.getElem?_map, List.getElem?_range hsl]
    show some (slotP ad F I id slot) = some (Value.ref (ad r))
    unfold slotP
    rw [hr]
    dsimp only
    rw [if_pos hF1]
  · exact h ad H locs ls hM ha hl oL (List.forall_mem_cons.mpr ⟨hF id slot r hF1 hr, oT⟩)
/-- a field is written, be it final or not -/
theorem put_any {o idx id slot pl : Nat} {v : Value} {ad : Nat → Nat} {H : Heap} {locs : List Loc} {ls : Array Slot} {rest : List Value} (C : KC X own cc) (hin : X.meth.name = "<init>") (ho : cnm o = own) (hown : ∀ r, vwCl[kd id]? = some r → r.1 = own) (hd : decode cc pc = .ok (.putfield idx, 3)) (hf : fchk (o, idx, kd id, slot, pl) = true) (hsl : slot < sz id) (hid : id < n) (hP : va_P X.D.1 vwCl (wsP n X.D ad F I) H) (hD : va_D X.A (wsP n X.D ad F I)) (hS : va_S X.A X.s.heap H locs)
    (hn : narrow (tyOf (kd id) slot) v = v) (hfit : fits (tyOf (kd id) slot) v = true)
    (kk : ∀ (H1 : Heap) (locs1 : List Loc), va_P X.D.1 vwCl ((wsP n X.D ad F I).set id (ad id, .inr (kd id, ((List.range (sz id)).map (slotP ad F I id)).set slot v))) H1 → va_D X.A ((wsP n X.D ad F I).set id (ad id, .inr (kd id, ((List.range (sz id)).map (slotP ad F I id)).set slot v))) → va_S X.A X.s.heap H1 locs1 → W X.p X.l X.e X.R X.s X.m X.args X.below X.meth X.c H1 locs1 cells slots X.Qw (F0 X.m (pc + 3) ls rest)) :
    W X.p X.l X.e X.R X.s X.m X.args X.below X.meth X.c H locs cells slots X.Qw (F0 X.m pc ls (v :: .ref (ad id) :: rest)) := by
  obtain ⟨r, hv, g1, g2, g3⟩ := fword hf
  rw [ho] at g2
  have hts := C.1.2.2.2.2.1
  have hcell : (wsP n X.D ad F I)[id]? = some (ad id, .inr (kd id, (List.range (sz id)).map (slotP ad F I id))) := by rw [wsP_at hid, cellP_obj (vw_lt hv)]
  cases hfin : (r.2.1 slot).2.2.2 with
  | false => exact va_put (D := X.D.1) (v := v) (ty := tyOf (kd id) slot) C.1.1 C.1.2.1 hts (cl_ok _ _ hv).1 (tyOf (kd id)) (cl_ok _ _ hv).2.1 (cl_ok _ _ hv).2.2 C.1.2.2.2.1 C.1.2.2.2.2.2.1 hP hD hS id hcell hv slot g1 (hts _ g2) (fun x hx => by rw [g3] at hx; exact hx) hfin ((cl_ok _ _ hv).2.1 slot g1) hn hfit (by simpa using hsl) hd kk
  | true => exact va_putF (D := X.D.1) (v := v) (ty := tyOf (kd id) slot) C.1.1 C.1.2.1 hts (cl_ok _ _ hv).1 (tyOf (kd id)) (cl_ok _ _ hv).2.1 (cl_ok _ _ hv).2.2 C.1.2.2.2.1 C.1.2.2.2.2.2.1 hP hD hS id hcell hv slot g1 (hts _ g2) (fun x hx => by rw [g3] at hx; exact hx) hfin hin (by rw [g3]; exact hown r hv) ((cl_ok _ _ hv).2.1 slot g1) hn hfit (by simpa using hsl) hd kk
theorem K_putI {o idx id slot pl : Nat} {v : Int} (C : KC X own cc) (hin : X.meth.name = "<init>") (ho : cnm o = own) (hown : ∀ r, vwCl[kd id]? = some r → r.1 = own) (hd : decode cc pc = .ok (.putfield idx, 3)) (hf : fchk (o, idx, kd id, slot, pl) = true) (hsl : slot < sz id) (hr : rf id slot = none) (hty : tyOf (kd id) slot = .int)
    (h : KW X cells slots (pc + 3) L st n F (upd2 I id slot v)) : KW X cells slots pc L (.inl v :: .inr (some id) :: st) n F I := by
  intro ad H locs ls hM ha hl oL oS
  have hM2 := hM
  obtain ⟨hP, hD, hS, hF, oI⟩ := hM2
  obtain ⟨ov, oT⟩ := List.forall_mem_cons.mp oS
  have ov : inR v := ov
  obtain ⟨hid, oT⟩ := List.forall_mem_cons.mp oT
  have hid : id < n := hid
  obtain ⟨r, hv, -⟩ := fword hf
  have hset : (wsP n X.D ad F I).set id (ad id, .inr (kd id, ((List.range (sz id)).map (slotP ad F I id)).set slot (.int (Int32.ofInt v)))) = wsP n X.D ad F (upd2 I id slot v) := by
    refine wsP_set hid ?_ (fun j hj => upd2_ne hj) (fun _ _ _ => rfl)
    rw [cellP_obj (vw_lt hv), set_map_range (g := slotP ad F (upd2 I id slot v) id) hsl]
    · unfold slotP; rw [hr, upd2_self]
    · intro j hj; unfold slotP; rw [upd2_nes hj]
  refine put_any (v := .int (Int32.ofInt v)) C hin ho hown hd hf hsl hid hP hD hS (by rw [hty]; rfl) (by rw [hty]; rfl) (fun H1 locs1 hP1 hD1 hS1 => ?_)
  rw [hset] at hP1 hD1
  exact h ad H1 locs1 ls ⟨hP1, hD1, hS1, hF, okI_upd oI ov⟩ ha hl oL oT
theorem K_putR {o idx id slot pl r : Nat} (C : KC X own cc) (hin : X.meth.name = "<init>") (ho : cnm o = own) (hown : ∀ r, vwCl[kd id]? = some r → r.1 = own) (hd : decode cc pc = .ok (.putfield idx, 3)) (hf : fchk (o, idx, kd id, slot, pl) = true) (hsl : slot < sz id) (hr : rf id slot = some r) (hty : isRefT (tyOf (kd id) slot) = true)
    (h : KW X cells slots (pc + 3) L st n ((id, slot) :: F) I) : KW X cells slots pc L (.inr (some r) :: .inr (some id) :: st) n F I := by
  intro ad H locs ls hM ha hl oL oS
  have hM2 := hM
  obtain ⟨hP, hD, hS, hF, oI⟩ := hM2
  obtain ⟨ov, oT⟩ := List.forall_mem_cons.mp oS
  have ov : r < n := ov
  obtain ⟨hid, oT⟩ := List.forall_mem_cons.mp oT
  have hid : id < n := hid
  obtain ⟨q, hv, -⟩ := fword hf
  have hset : (wsP n X.D ad F I).set id (ad id, .inr (kd id, ((List.range (sz id)).map (slotP ad F I id)).set slot (.ref (ad r)))) = wsP n X.D ad ((id, slot) :: F) I := by
    refine wsP_set hid ?_ (fun _ _ => rfl) (fun j k hj => inF_ne (fun z => hj z.1))
    rw [cellP_obj (vw_lt hv), set_map_range (g := slotP ad ((id, slot) :: F) I id) hsl]
    · unfold slotP; rw [hr]; dsimp only; rw [if_pos inF_self]
    · intro j hj; unfold slotP; rw [inF_ne (fun z => hj z.2)]
  have hn : narrow (tyOf (kd id) slot) (.ref (ad r)) = .ref (ad r) := by
    cases ht : tyOf (kd id) slot with
    | object _ => rfl
    | array _ => rfl
    | _ => rw [ht] at hty; cases hty
  have hfit : fits (tyOf (kd id) slot) (.ref (ad r)) = true := by
    cases ht : tyOf (kd id) slot with
    | object _ => rfl
    | array _ => rfl
    | _ => rw [ht] at hty; cases hty
  refine put_any (v := .ref (ad r)) C hin ho hown hd hf hsl hid hP hD hS hn hfit (fun H1 locs1 hP1 hD1 hS1 => ?_)
  rw [hset] at hP1 hD1
  exact h ad H1 locs1 ls ⟨hP1, hD1, hS1, hF.add (fun r0 h0 => by rw [hr] at h0; cases h0; exact ov), oI⟩ ha hl oL oT
theorem K_iast {id : Nat} {i v : Int} (C : KC X own cc) (hd : decode cc pc = .ok (.iastore, 1)) (hk : kd id = 20) (h0 : 0 ≤ i) (h1 : i < (sz id : Int)) (h : KW X cells slots (pc + 1) L st n F (upd2 I id i.toNat v)) : KW X cells slots pc L (.inl v :: .inl i :: .inr (some id) :: st) n F I := by
  intro ad H locs ls hM ha hl oL oS
  have hM2 := hM
  obtain ⟨hP, hD, hS, hF, oI⟩ := hM2
  obtain ⟨ov, oT⟩ := List.forall_mem_cons.mp oS
  have ov : inR v := ov
  obtain ⟨oi, oT⟩ := List.forall_mem_cons.mp oT
  have oi : inR i := oi
  obtain ⟨hid, oT⟩ := List.forall_mem_cons.mp oT
  have hid : id < n := hid
  have hcell : (wsP n X.D ad F I)[id]? = some (ad id, .inl (X.D.2.1, sz id, .inl (fun j => Int32.ofInt (I id j)))) := by rw [wsP_at hid]; unfold cellP; rw [if_pos hk]
  refine va_iast (D := X.D.1) C.1.1 C.1.2.1 C.1.2.2.2.2.2.1 hP hD hS id 0 hcell rfl (vpin oi h0 h1) hd ?_
  intro H1 locs1 hP1 hD1 hS1
  rw [clampN oi h0, upd_of, wsP_set (F' := F) (I' := upd2 I id i.toNat v) hid (by unfold cellP; rw [if_pos hk]) (fun j hj => upd2_ne hj) (fun _ _ _ => rfl)] at hP1 hD1
  exact h ad H1 locs1 ls ⟨hP1, hD1, hS1, hF, okI_upd oI ov⟩ ha hl oL oT
theorem K_aast {id r : Nat} {i : Int} (C : KC X own cc) (hd : decode cc pc = .ok (.aastore, 1)) (hk : kd id = 22) (h0 : 0 ≤ i) (h1 : i < (sz id : Int)) (hkr : kd r = 3) (hr : rf id i.toNat = some r) (h : KW X cells slots (pc + 1) L st n ((id, i.toNat) :: F) I) : KW X cells slots pc L (.inr (some r) :: .inl i :: .inr (some id) :: st) n F I := by
  intro ad H locs ls hM ha hl oL oS
  have hM2 := hM
  obtain ⟨hP, hD, hS, hF, oI⟩ := hM2
  obtain ⟨ov, oT⟩ := List.forall_mem_cons.mp oS
  have ov : r < n := ov
  obtain ⟨oi, oT⟩ := List.forall_mem_cons.mp oT
  have oi : inR i := oi
  obtain ⟨hid, oT⟩ := List.forall_mem_cons.mp oT
  have hid : id < n := hid
  have hcell : (wsP n X.D ad F I)[id]? = some (ad id, .inl (X.D.2.2.2, sz id, .inr (.inr (.inr (.inr (fun j => if inF F id j = true then (rf id j).map ad else none)))))) := by rw [wsP_at hid]; unfold cellP; rw [if_neg (by omega), if_neg (by omega), if_pos hk]
  have hcr : (wsP n X.D ad F I)[r]? = some (ad r, .inr (3, (List.range (sz r)).map (slotP ad F I r))) := by rw [wsP_at ov, cellP_obj (by omega), hkr]
  refine va_astq (D := X.D.1) (r := (RX4, TX4, 4)) C.1.1 C.1.2.1 C.1.2.2.2.2.2.1 hP hD hS id 2 r 3 hcell rfl hcr rfl (vpin oi h0 h1) hd ?_
  intro H1 locs1 hP1 hD1 hS1
  have ef : va_up (fun j => if inF F id j = true then (rf id j).map ad else none) i.toNat (some (ad r)) = (fun j => if inF ((id, i.toNat) :: F) id j = true then (rf id j).map ad else none) := by
    funext j
    unfold va_up
    by_cases hj : j = i.toNat
    · subst hj
      simp [inF_self, hr]
    · rw [inF_ne (fun z => hj z.2)]
      simp [hj]
  rw [clampN oi h0, ef, wsP_set (F' := (id, i.toNat) :: F) (I' := I) hid (by unfold cellP; rw [if_neg (by omega), if_neg (by omega), if_pos hk]) (fun _ _ => rfl) (fun j k hj => inF_ne (fun z => hj z.1))] at hP1 hD1
  exact h ad H1 locs1 ls ⟨hP1, hD1, hS1, hF.add (fun r0 h0 => by rw [hr] at h0; cases h0; exact ov), oI⟩ ha hl oL oT
end KPut
