/-! Rules of fields, arrays and returns. -/
def gchk (id : Nat) : Bool := match nth gt id with
  | none => true
  | some q => q.2.2.all (fun r => match r with
    | none => true
    | some r => decide (r < N2) && (decide (N1 ≤ id) || decide (r < N1)))
theorem gchk_all : (List.range N2).all gchk = true := by decide +kernel
theorem rf_lt {N id k r : Nat} (hN : NOK N) (hid : id < N) (h : rf id k = some r) : r < N := by
  have hid2 : id < N2 := by rcases hN with rfl | rfl <;> (have : N1 ≤ N2 := by decide) <;> omega
  have h1 := List.all_eq_true.mp gchk_all id (List.mem_range.mpr hid2)
  unfold gchk at h1
  unfold rf at h
  cases hg : nth gt id with
  | none => rw [hg] at h; cases h
  | some q =>
    rw [hg] at h h1
    dsimp only at h h1
    cases hk : nth q.2.2 k with
    | none => rw [hk] at h; cases h
    | some r0 =>
      rw [hk] at h
      dsimp only at h
      subst h
      rw [nth_eq] at hk
      have h2 := List.all_eq_true.mp h1 _ (List.mem_of_getElem? hk)
      simp only [Bool.and_eq_true, decide_eq_true_eq, Bool.or_eq_true] at h2
      rcases hN with rfl | rfl
      · omega
      · exact h2.1
def gv (I : Mem) (id k : Nat) : AV := match rf id k with
  | some r => .inr (some r)
  | none => .inl (I id k)
theorem cv_gv (ad : Nat → Nat) (I : Mem) (id k : Nat) : cv ad (gv I id k) = slotv ad I id k := by
  unfold gv slotv
  cases rf id k <;> rfl
theorem okv_gv {N : Nat} {I : Mem} {id k : Nat} (hN : NOK N) (hid : id < N) (oI : okI I) : okv N (gv I id k) := by
  unfold gv
  cases h : rf id k with
  | none => exact oI id k
  | some r => exact rf_lt hN hid h
theorem vw_lt {ci : Nat} {q : vw_C} (h : vwCl[ci]? = some q) : ci < 9 := by
  have := (List.getElem?_eq_some_iff.mp h).1
  simpa [vwCl] using this
theorem cell_obj {D : Dw} {ad : Nat → Nat} {I : Mem} {id : Nat} (h : kd id < 9) : cellOf D ad I id = .inr (kd id, (List.range (sz id)).map (slotv ad I id)) := by
  unfold cellOf
  rw [if_neg (by omega), if_neg (by omega), if_neg (by omega)]
def isB (v : Int) : Prop := v = 0 ∨ v = 1
section Heap
variable {k pc : Nat} {L : List (Nat × AV)} {st : List AV} {I : Mem} {Q : Post}
theorem R_getfield {idx slot id pl : Nat} (hd : decode (mC k) pc = .ok (.getfield idx, 3)) (hf : (mO k, idx, kd id, slot, pl) ∈ ftab) (hsl : slot < sz id) (h : R k (pc + 3) L (gv I id slot :: st) I Q) : R k pc L (.inr (some id) :: st) I Q := by
  intro l p e s m args below meth c N D ad C F H locs ls hP hS hl oL oS oI
  obtain ⟨hid, oT⟩ := List.forall_mem_cons.mp oS
  have hid : id < N := hid
  have h1 := List.all_eq_true.mp fchk_all _ hf
  unfold fchk at h1
  cases hv : vwCl[kd id]? with
  | none => rw [hv] at h1; cases h1
  | some r =>
    rw [hv] at h1
    simp only [Bool.and_eq_true, decide_eq_true_eq] at h1
    obtain ⟨⟨g1, g2⟩, g3⟩ := h1
    have hlink := C.2.2.2.2.2.1 _ (gw_of (List.mem_of_getElem? g2) rfl)
    rw [(mok C.2.2.2.2.2.2.2).2.2.2.2.2.1] at hlink
    have hcell : (wsOf N D ad I)[id]? = some (ad id, .inr (kd id, (List.range (sz id)).map (slotv ad I id))) := by rw [ws_at hid, cell_obj (vw_lt hv)]
    refine va_get (D := D.1) (v := cv ad (gv I id slot)) C.1 C.2.1 C.2.2.2.2.2.1 (cl_ok _ _ hv).1 C.2.2.2.2.1 F.2.2.1 hP id hcell hv slot g1 hlink (fun x hx => by rw [g3] at hx; exact hx) ?_ hd ?_
    · rw [List.getElem?_map, List.getElem?_range hsl, cv_gv]
      rfl
    · exact h l p e s m args below meth c N D ad C F H locs ls hP hS hl oL (List.forall_mem_cons.mpr ⟨okv_gv F.1 hid oI, oT⟩) oI
theorem set_map_range {α : Type} {n k : Nat} {f g : Nat → α} {v : α} (hk : k < n) (hv : g k = v) (ho : ∀ j, j ≠ k → g j = f j) : ((List.range n).map f).set k v = (List.range n).map g := by
  apply List.ext_getElem?
  intro j
  by_cases hj : j = k
  · subst hj
    rw [List.getElem?_set_self (by simpa using hk), List.getElem?_map, List.getElem?_range hk]
    simp [hv]
  · rw [List.getElem?_set_ne (Ne.symm hj), List.getElem?_map, List.getElem?_map]
    by_cases hn : j < n
    · rw [List.getElem?_range hn]; simp [ho j hj]
    · rw [List.getElem?_eq_none (by simpa using hn)]; rfl
theorem upd2_self {I : Mem} {id k : Nat} {v : Int} : upd2 I id k v id k = v := by simp [upd2]
theorem upd2_nes {I : Mem} {id k j : Nat} {v : Int} (h : j ≠ k) : upd2 I id k v id j = I id j := by simp [upd2, h]
theorem R_putfield {idx slot id pl : Nat} {v : Int} (hd : decode (mC k) pc = .ok (.putfield idx, 3)) (hf : (mO k, idx, kd id, slot, pl) ∈ ftab) (hsl : slot < sz id) (hrf : rf id slot = none)
    (hfin : ∀ r, vwCl[kd id]? = some r → (r.2.1 slot).2.2.2 = false) (hty : tyOf (kd id) slot = .int ∨ (tyOf (kd id) slot = .boolean ∧ isB v)) (h : R k (pc + 3) L st (upd2 I id slot v) Q) : R k pc L (.inl v :: .inr (some id) :: st) I Q := by
  intro l p e s m args below meth c N D ad C F H locs ls hP hS hl oL oS oI
  obtain ⟨ov, oT⟩ := List.forall_mem_cons.mp oS
  have ov : inR v := ov
  obtain ⟨hid, oT⟩ := List.forall_mem_cons.mp oT
  have hid : id < N := hid
  have h1 := List.all_eq_true.mp fchk_all _ hf
  unfold fchk at h1
  cases hv : vwCl[kd id]? with
  | none => rw [hv] at h1; cases h1
  | some r =>
    rw [hv] at h1
    simp only [Bool.and_eq_true, decide_eq_true_eq] at h1
    obtain ⟨⟨g1, g2⟩, g3⟩ := h1
    have hlink := C.2.2.2.2.2.1 _ (gw_of (List.mem_of_getElem? g2) rfl)
    rw [(mok C.2.2.2.2.2.2.2).2.2.2.2.2.1] at hlink
    have hcell : (wsOf N D ad I)[id]? = some (ad id, .inr (kd id, (List.range (sz id)).map (slotv ad I id))) := by rw [ws_at hid, cell_obj (vw_lt hv)]
    have hset : (wsOf N D ad I).set id (ad id, .inr (kd id, ((List.range (sz id)).map (slotv ad I id)).set slot (.int (Int32.ofInt v)))) = wsOf N D ad (upd2 I id slot v) := by
      refine ws_set hid ?_ (fun j hj => upd2_ne hj)
      rw [cell_obj (vw_lt hv), set_map_range (g := slotv ad (upd2 I id slot v) id) hsl]
      · unfold slotv; rw [hrf, upd2_self]
      · intro j hj; unfold slotv; rw [upd2_nes hj]
    have hn : narrow (tyOf (kd id) slot) (.int (Int32.ofInt v)) = .int (Int32.ofInt v) := by
      rcases hty with hty | ⟨hty, rfl | rfl⟩ <;> rw [hty] <;> rfl
    have hfit : fits (tyOf (kd id) slot) (.int (Int32.ofInt v)) = true := by
      rcases hty with hty | ⟨hty, rfl | rfl⟩ <;> rw [hty] <;> rfl
    refine va_put (D := D.1) (v := .int (Int32.ofInt v)) (ty := tyOf (kd id) slot) C.1 C.2.1 C.2.2.2.2.2.1 (cl_ok _ _ hv).1 (tyOf (kd id)) (cl_ok _ _ hv).2.1 (cl_ok _ _ hv).2.2 C.2.2.2.2.1 F.2.2.1 hP (ws_D F.2.1) hS id hcell hv slot g1 hlink (fun x hx => by rw [g3] at hx; exact hx) (hfin r hv) ((cl_ok _ _ hv).2.1 slot g1) hn hfit (by simpa using hsl) hd ?_
    intro H1 locs1 hP1 hD1 hS1
    rw [hset] at hP1
    exact h l p e s m args below meth c N D ad C F H1 locs1 ls hP1 hS1 hl oL oT (okI_upd oI ov)
theorem R_iaload {id : Nat} {i : Int} (hd : decode (mC k) pc = .ok (.iaload, 1)) (hk : kd id = 20) (h0 : 0 ≤ i) (h1 : i < (sz id : Int)) (h : R k (pc + 1) L (.inl (I id i.toNat) :: st) I Q) : R k pc L (.inl i :: .inr (some id) :: st) I Q := by
  intro l p e s m args below meth c N D ad C F H locs ls hP hS hl oL oS oI
  obtain ⟨oi, oT⟩ := List.forall_mem_cons.mp oS
  have oi : inR i := oi
  obtain ⟨hid, oT⟩ := List.forall_mem_cons.mp oT
  have hid : id < N := hid
  have hcell : (wsOf N D ad I)[id]? = some (ad id, .inl (D.2.1, sz id, .inl (fun j => Int32.ofInt (I id j)))) := by rw [ws_at hid]; unfold cellOf; rw [if_pos hk]
  refine va_iald (D := D.1) C.1 C.2.1 F.2.2.1 hP id 0 hcell rfl (vpin oi h0 h1) hd ?_
  rw [clampN oi h0]
  exact h l p e s m args below meth c N D ad C F H locs ls hP hS hl oL (List.forall_mem_cons.mpr ⟨oI id _, oT⟩) oI
theorem R_baload {id : Nat} {i : Int} (hd : decode (mC k) pc = .ok (.baload, 1)) (hk : kd id = 21) (h0 : 0 ≤ i) (h1 : i < (sz id : Int)) (h : R k (pc + 1) L (.inl (I id i.toNat) :: st) I Q) : R k pc L (.inl i :: .inr (some id) :: st) I Q := by
  intro l p e s m args below meth c N D ad C F H locs ls hP hS hl oL oS oI
  obtain ⟨oi, oT⟩ := List.forall_mem_cons.mp oS
  have oi : inR i := oi
  obtain ⟨hid, oT⟩ := List.forall_mem_cons.mp oT
  have hid : id < N := hid
  have hcell : (wsOf N D ad I)[id]? = some (ad id, .inl (D.2.2.1, sz id, .inl (fun j => Int32.ofInt (I id j)))) := by rw [ws_at hid]; unfold cellOf; rw [if_neg (by omega), if_pos hk]
  refine va_zald (D := D.1) C.1 C.2.1 F.2.2.1 hP id 1 hcell rfl (vpin oi h0 h1) hd ?_
  rw [clampN oi h0]
  exact h l p e s m args below meth c N D ad C F H locs ls hP hS hl oL (List.forall_mem_cons.mpr ⟨oI id _, oT⟩) oI
theorem R_aaload {id : Nat} {i : Int} (hd : decode (mC k) pc = .ok (.aaload, 1)) (hk : kd id = 22) (h0 : 0 ≤ i) (h1 : i < (sz id : Int)) (h : R k (pc + 1) L (.inr (rf id i.toNat) :: st) I Q) : R k pc L (.inl i :: .inr (some id) :: st) I Q := by
  intro l p e s m args below meth c N D ad C F H locs ls hP hS hl oL oS oI
  obtain ⟨oi, oT⟩ := List.forall_mem_cons.mp oS
  have oi : inR i := oi
  obtain ⟨hid, oT⟩ := List.forall_mem_cons.mp oT
  have hid : id < N := hid
  have hcell : (wsOf N D ad I)[id]? = some (ad id, .inl (D.2.2.2, sz id, .inr (.inr (.inr (.inr (fun j => (rf id j).map ad)))))) := by rw [ws_at hid]; unfold cellOf; rw [if_neg (by omega), if_neg (by omega), if_pos hk]
  refine va_aldq (D := D.1) C.1 C.2.1 F.2.2.1 hP id 2 hcell rfl (vpin oi h0 h1) hd ?_
  rw [clampN oi h0]
  refine h l p e s m args below meth c N D ad C F H locs ls hP hS hl oL (List.forall_mem_cons.mpr ⟨?_, oT⟩) oI
  cases hr : rf id i.toNat with
  | none => trivial
  | some r => exact rf_lt F.1 hid hr
theorem upd_of {I : Mem} {id n : Nat} {v : Int} : upd (fun j => Int32.ofInt (I id j)) n (Int32.ofInt v) = fun j => Int32.ofInt (upd2 I id n v id j) := by
  funext j
  by_cases hj : j = n
  · subst hj; simp [upd, upd2]
  · simp [upd, upd2, hj]
theorem R_iastore {id : Nat} {i v : Int} (hd : decode (mC k) pc = .ok (.iastore, 1)) (hk : kd id = 20) (h0 : 0 ≤ i) (h1 : i < (sz id : Int)) (h : R k (pc + 1) L st (upd2 I id i.toNat v) Q) : R k pc L (.inl v :: .inl i :: .inr (some id) :: st) I Q := by
  intro l p e s m args below meth c N D ad C F H locs ls hP hS hl oL oS oI
  obtain ⟨ov, oT⟩ := List.forall_mem_cons.mp oS
  have ov : inR v := ov
  obtain ⟨oi, oT⟩ := List.forall_mem_cons.mp oT
  have oi : inR i := oi
  obtain ⟨hid, oT⟩ := List.forall_mem_cons.mp oT
  have hid : id < N := hid
  have hcell : (wsOf N D ad I)[id]? = some (ad id, .inl (D.2.1, sz id, .inl (fun j => Int32.ofInt (I id j)))) := by rw [ws_at hid]; unfold cellOf; rw [if_pos hk]
  refine va_iast (D := D.1) C.1 C.2.1 F.2.2.1 hP (ws_D F.2.1) hS id 0 hcell rfl (vpin oi h0 h1) hd ?_
  intro H1 locs1 hP1 hD1 hS1
  rw [clampN oi h0, upd_of, ws_set (I' := upd2 I id i.toNat v) hid (by unfold cellOf; rw [if_pos hk]) (fun j hj => upd2_ne hj)] at hP1
  exact h l p e s m args below meth c N D ad C F H1 locs1 ls hP1 hS1 hl oL oT (okI_upd oI ov)
theorem nar_B {v : Int} (h : isB v) : vp_nar .boolean (Int32.ofInt v) = Int32.ofInt v := by
  rcases h with rfl | rfl <;> rfl
theorem R_bastore {id : Nat} {i v : Int} (hd : decode (mC k) pc = .ok (.bastore, 1)) (hk : kd id = 21) (h0 : 0 ≤ i) (h1 : i < (sz id : Int)) (hv : isB v) (h : R k (pc + 1) L st (upd2 I id i.toNat v) Q) : R k pc L (.inl v :: .inl i :: .inr (some id) :: st) I Q := by
  intro l p e s m args below meth c N D ad C F H locs ls hP hS hl oL oS oI
  obtain ⟨ov, oT⟩ := List.forall_mem_cons.mp oS
  have ov : inR v := ov
  obtain ⟨oi, oT⟩ := List.forall_mem_cons.mp oT
  have oi : inR i := oi
  obtain ⟨hid, oT⟩ := List.forall_mem_cons.mp oT
  have hid : id < N := hid
  have hcell : (wsOf N D ad I)[id]? = some (ad id, .inl (D.2.2.1, sz id, .inl (fun j => Int32.ofInt (I id j)))) := by rw [ws_at hid]; unfold cellOf; rw [if_neg (by omega), if_pos hk]
  refine va_zast (D := D.1) C.1 C.2.1 F.2.2.1 hP (ws_D F.2.1) hS id 1 hcell rfl (vpin oi h0 h1) hd ?_
  intro H1 locs1 hP1 hD1 hS1
  rw [clampN oi h0, nar_B hv, upd_of, ws_set (I' := upd2 I id i.toNat v) hid (by unfold cellOf; rw [if_neg (by omega), if_pos hk]) (fun j hj => upd2_ne hj)] at hP1
  exact h l p e s m args below meth c N D ad C F H1 locs1 ls hP1 hS1 hl oL oT (okI_upd oI ov)
theorem sz_small (id : Nat) : inR (sz id : Int) := by
  have h : ∀ q ∈ gt, q.2.1 < 1000 := by decide +kernel
  unfold inR
  unfold sz
  cases hg : nth gt id with
  | none => dsimp only; omega
  | some q =>
    rw [nth_eq] at hg
    have := h q (List.mem_of_getElem? hg)
    dsimp only
    omega
theorem R_alen {id : Nat} (hd : decode (mC k) pc = .ok (.arraylength, 1)) (hk : kd id = 20 ∨ kd id = 21 ∨ kd id = 22) (h : R k (pc + 1) L (.inl (sz id : Int) :: st) I Q) : R k pc L (.inr (some id) :: st) I Q := by
  intro l p e s m args below meth c N D ad C F H locs ls hP hS hl oL oS oI
  obtain ⟨hid, oT⟩ := List.forall_mem_cons.mp oS
  have hid : id < N := hid
  have h2 := h l p e s m args below meth c N D ad C F H locs ls hP hS hl oL (List.forall_mem_cons.mpr ⟨sz_small id, oT⟩) oI
  rcases hk with hk | hk | hk
  · have hcell : (wsOf N D ad I)[id]? = some (ad id, .inl (D.2.1, sz id, .inl (fun j => Int32.ofInt (I id j)))) := by rw [ws_at hid]; unfold cellOf; rw [if_pos hk]
    exact va_alen (D := D.1) C.1 C.2.1 F.2.2.1 hP id 0 hcell rfl (v := Int32.ofInt (sz id : Int)) rfl hd h2
  · have hcell : (wsOf N D ad I)[id]? = some (ad id, .inl (D.2.2.1, sz id, .inl (fun j => Int32.ofInt (I id j)))) := by rw [ws_at hid]; unfold cellOf; rw [if_neg (by omega), if_pos hk]
    exact va_alen (D := D.1) C.1 C.2.1 F.2.2.1 hP id 1 hcell rfl (v := Int32.ofInt (sz id : Int)) rfl hd h2
  · have hcell : (wsOf N D ad I)[id]? = some (ad id, .inl (D.2.2.2, sz id, .inr (.inr (.inr (.inr (fun j => (rf id j).map ad)))))) := by rw [ws_at hid]; unfold cellOf; rw [if_neg (by omega), if_neg (by omega), if_pos hk]
    exact va_alen (D := D.1) C.1 C.2.1 F.2.2.1 hP id 2 hcell rfl (v := Int32.ofInt (sz id : Int)) rfl hd h2
theorem R_ireturn {v : Int} (hd : decode (mC k) pc = .ok (.ireturn, 1)) (hr : mR k = some .int) (h : Q (some (.inl v)) I) : R k pc L [.inl v] I Q := by
  intro l p e s m args below meth c N D ad C F H locs ls hP hS hl oL oS oI
  refine W.iret (v := Int32.ofInt v) C.1 C.2.1 (C.2.2.1.trans hr) (fun t ht hW => ⟨⟨some (.inl v), I, rfl, h, oI, fun w hw => by cases hw; exact (List.forall_mem_cons.mp oS).1, by rw [ht]; exact hP⟩, hS.F ht⟩) hS.2.2 hd (hlocks := C.2.2.2.2.2.2.1)
theorem R_breturn {v : Int} (hd : decode (mC k) pc = .ok (.ireturn, 1)) (hr : mR k = some .boolean) (hb : isB v) (h : Q (some (.inl v)) I) : R k pc L [.inl v] I Q := by
  intro l p e s m args below meth c N D ad C F H locs ls hP hS hl oL oS oI
  refine W.zret (v := Int32.ofInt v) C.1 C.2.1 (C.2.2.1.trans hr) (by rcases hb with rfl | rfl <;> rfl) (fun t ht hW => ⟨⟨some (.inl v), I, rfl, h, oI, fun w hw => by cases hw; exact (List.forall_mem_cons.mp oS).1, by rw [ht]; exact hP⟩, hS.F ht⟩) hS.2.2 hd (hlocks := C.2.2.2.2.2.2.1)
theorem R_return (hd : decode (mC k) pc = .ok (.return_, 1)) (hr : mR k = none) (h : Q none I) : R k pc L [] I Q := by
  intro l p e s m args below meth c N D ad C F H locs ls hP hS hl oL oS oI
  refine W.vret C.1 C.2.1 (C.2.2.1.trans hr) (fun t ht hW => ⟨⟨none, I, rfl, h, oI, fun w hw => (by cases hw), by rw [ht]; exact hP⟩, hS.F ht⟩) hS.2.2 hd (hlocks := C.2.2.2.2.2.2.1)
theorem R_areturn {r : Option Nat} {cn : String} (hd : decode (mC k) pc = .ok (.areturn, 1)) (hr : mR k = some (.object cn)) (h : Q (some (.inr r)) I) : R k pc L [.inr r] I Q := by
  intro l p e s m args below meth c N D ad C F H locs ls hP hS hl oL oS oI
  refine W.aret (v := cv ad (.inr r)) C.1 C.2.1 (C.2.2.1.trans hr) (Or.inl ⟨_, rfl⟩) (by cases r; exact Or.inl rfl; exact Or.inr ⟨_, rfl⟩) (fun t ht hW => ⟨⟨some (.inr r), I, rfl, h, oI, fun w hw => by cases hw; exact (List.forall_mem_cons.mp oS).1, by rw [ht]; exact hP⟩, hS.F ht⟩) hS.2.2 hd (hlocks := C.2.2.2.2.2.2.1)
end Heap
