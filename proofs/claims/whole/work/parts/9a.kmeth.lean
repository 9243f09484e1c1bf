/-! Methods called while all objects of a graph are there. -/
section KMeth
variable {X : Kx} {own : String} {cc : ByteArray} {cells slots pc : Nat} {L : List (Nat × AV)} {st : List AV} {n : Nat} {F : Fl} {I : Mem}
def FAll (n : Nat) (F : Fl) : Prop := ∀ id k r, id < n → rf id k = some r → inF F id k = true
theorem K_methL {k2 idx id : Nat} {as : List AV} {Q2 : Post} (C : KC X own cc) (hd : decode cc pc = .ok (.invokevirtual idx, 3)) (hk2 : k2 < mN) (hlink : Cond.methodLink own idx (mY k2) ∈ gw) (hst : (mP k2).2.2.2.2.1 = false) (hn : as.length = (mP k2).2.2.2.2.2) (hL : as.length + 1 ≤ mL k2)
    (hcl : ∃ r, vwCl[kd id]? = some r ∧ r.1 = (mY k2).cls) (hrm : (mRm k2).frames + 1 ≤ X.R.frames ∧ 8 + (mL k2 + 11) + (mRm k2).locals ≤ X.R.locals) (h8 : st.length ≤ 8) (hN : NOK n) (hFa : FAll n F) (hcs : cells ≤ X.R.cells ∧ slots ≤ X.R.slots)
    (hR : R k2 0 (enumL 0 (.inr (some id) :: as)) [] I Q2) (h : ∀ r I', Q2 r I' → KW X cells slots (pc + 3) L (r.toList ++ st) n F I') : KW X cells slots pc L (as.reverse ++ .inr (some id) :: st) n F I := by
  intro ad H locs ls hMk ha hl oL oS
  obtain ⟨hP, hD, hS, hF, oI⟩ := hMk
  obtain ⟨oA, oT⟩ := okS_split oS
  obtain ⟨hid, oT⟩ := List.forall_mem_cons.mp oT
  have hid : id < n := hid
  have hinj : ∀ i j, i < n → j < n → ad i = ad j → i = j := fun i j hi hj e => hD.1 i j _ _ (wsP_at hi) (wsP_at hj) e
  rw [wsP_all hFa] at hP
  have oA2 : ∀ v ∈ (Sum.inr (some id) :: as : List AV), okv n v := List.forall_mem_cons.mpr ⟨hid, oA⟩
  have hM := Met_of_R hk2 hR (by simpa using hL) X.l (D := X.D) hN hinj oI oA2
  have hm := mok hk2
  have hts := C.1.2.2.2.2.1
  have hK := C.1.2.2.2.2.2.1
  have hNs := C.1.2.2.2.2.2.2.1
  rw [len_take rfl]
  have hW8 : 2 * (F0 X.m pc ls ((as.map (cv ad)).reverse ++ (Sum.inr (some id) :: st : List AV).map (cv ad))).monitorRoom + ((st.map (cv ad)).map fun v => v.category).sum ≤ 8 := lv_room (by rw [cat_sum]; exact h8)
  obtain ⟨r, hr1, hr2⟩ := hcl
  have hcell : (wsOf n X.D ad I)[id]? = some (ad id, .inr (kd id, (List.range (sz id)).map (slotv ad I id))) := by rw [ws_at hid, cell_obj (vw_lt hr1)]
  have hrecv := va_recv hK hP hr1 hcell
  rw [hr2] at hrecv
  have hrun : va_Run X.p X.l X.e X.R X.s X.m X.args X.below X.meth X.c H locs cells slots 0 0 (F0 X.m pc ls ((as.map (cv ad)).reverse ++ (Sum.inr (some id) :: st : List AV).map (cv ad))) (st.map (cv ad)) (QcOf n X.D ad Q2 ((Sum.inr (some id) :: as : List AV).map (cv ad)).toArray) (Ad n ad) := by
    refine va_runV (As := as.map (cv ad)) (own := own) (index := idx) (C := (mY k2).cls) (b := ad id) ⟨C.1.1, C.1.2.1, C.1.2.2.1, C.1.2.2.2.1, hts⟩ hM (cwV (mP k2).2.2.2.2.2 hts ?_ (wsM_eq k2) rfl rfl ⟨rfl, hm.2.2.2.2.2.2.2.1, hm.2.2.2.2.2.2.2.2, hm.2.2.2.2.1⟩ hrm) ⟨PcOf_blind, hrecv, PcOf_at hP hK hNs⟩ rfl (by rw [List.length_map]; exact hn) hl.1 rfl hW8 hd hcs
    refine goodIn_app ?_ (goodIn_wsM hk2)
    intro w hw
    simp only [List.mem_cons, List.not_mem_nil, or_false] at hw
    rcases hw with rfl | rfl | rfl | rfl
    · exact ⟨hlink, gw_good _ hlink⟩
    · exact ⟨(hm.2.2.2.1 hst).1, gw_good _ (hm.2.2.2.1 hst).1⟩
    · exact ⟨(hm.2.2.2.1 hst).2, gw_good _ (hm.2.2.2.1 hst).2⟩
    · exact ⟨hm.2.1, gw_good _ hm.2.1⟩
  have hAd : ∀ q, Ad n ad q → X.A q := by
    rintro q ⟨i, hi, rfl⟩
    exact hD.2 i _ (wsP_at hi)
  refine va_callQ hrun hS hAd (fun r I' H1 locs1 hq oI' ov hP1 hk1 hS1 => ?_)
  have hD' : va_D X.A (wsP n X.D ad F I') := by
    refine ⟨fun i j p q h1 h2 e => ?_, fun k q hk => ?_⟩
    · obtain ⟨a1, rfl⟩ := wsP_in h1
      obtain ⟨a2, rfl⟩ := wsP_in h2
      exact hinj i j a1 a2 e
    · obtain ⟨a1, rfl⟩ := wsP_in hk
      have h9 := hD.2 k _ (wsP_at a1)
      exact h9
  have h3 := h r I' hq ad H1 locs1 ls ⟨by rw [wsP_all hFa]; exact hP1, hD', hS1, hF, oI'⟩ ha hl oL (by
    intro v hv
    rcases List.mem_append.mp hv with hv | hv
    · exact ov v (by simpa using hv)
    · exact oT v hv)
  have e3 : (r.toList ++ st).map (cv ad) = (r.map (cv ad)).toList ++ st.map (cv ad) := by cases r <;> simp
  rw [e3] at h3
  exact h3
theorem K_meth {o k2 idx id pl : Nat} {as : List AV} {Q2 : Post} (C : KC X own cc) (ho : cnm o = own) (hd : decode cc pc = .ok (.invokevirtual idx, 3)) (hc : (o, idx, k2, 0, pl) ∈ ctab) (hst : (mP k2).2.2.2.2.1 = false) (hn : as.length = (mP k2).2.2.2.2.2) (hL : as.length + 1 ≤ mL k2)
    (hcl : ∃ r, vwCl[kd id]? = some r ∧ r.1 = (mY k2).cls) (hrm : (mRm k2).frames + 1 ≤ X.R.frames ∧ 8 + (mL k2 + 11) + (mRm k2).locals ≤ X.R.locals) (h8 : st.length ≤ 8) (hN : NOK n) (hFa : FAll n F) (hcs : cells ≤ X.R.cells ∧ slots ≤ X.R.slots)
    (hR : R k2 0 (enumL 0 (.inr (some id) :: as)) [] I Q2) (h : ∀ r I', Q2 r I' → KW X cells slots (pc + 3) L (r.toList ++ st) n F I') : KW X cells slots pc L (as.reverse ++ .inr (some id) :: st) n F I := by
  obtain ⟨hk2, hlink⟩ := link_of hc
  have hlink := hlink (by decide)
  rw [ho] at hlink
  exact K_methL C hd hk2 hlink hst hn hL hcl hrm h8 hN hFa hcs hR h
end KMeth
