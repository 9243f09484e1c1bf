/-! Their contracts. -/
theorem prog0 : prog H0p := by
  refine ⟨?_, ?_, fun c => ?_, ?_⟩
  · show fl [kE] [(48, 0, 0)] = some []
    have e : cs kE (48, 0, 0) = some [] := by unfold cs; rw [if_pos (Or.inl (by decide))]
    unfold fl
    rw [e]
    rfl
  · intro h hh
    cases List.mem_singleton.mp hh
    exact ⟨fun _ => rfl, fun _ => rfl⟩
  · show bcnt c (48, 0, 0) + 0 ≤ 1
    unfold bcnt
    rw [if_neg (fun z => absurd z.1 (by decide)), if_neg (fun z => absurd z.1 (by decide))]
    decide
  · rw [tk0]; decide
theorem good0 : Good Sta0 := ⟨prog0, Nat.zero_le _, fun k hk => absurd hk (Nat.not_lt_zero _), fun i _ h => (by cases h), Nat.zero_le _, Nat.zero_le _⟩
def PmX (I : Mem) : Prop := RelC I Sta0 ∧ Zr 77 I
def PmM (I : Mem) : Prop := RelC I Sta0 ∧ RelM I Sta0
theorem memX_spec {I I' : Mem} (h : memX I = true) (hA : AnaOK I' H0p) (e : ∀ id, (id < 9 ∨ 25 < id) → I' id = I id) : RelC I' Sta0 := by
  unfold memX at h
  simp only [Bool.and_eq_true, decide_eq_true_eq] at h
  obtain ⟨⟨⟨⟨⟨⟨⟨⟨⟨⟨h1, h2⟩, h3⟩, h4⟩, h5⟩, h6⟩, h7⟩, h8⟩, h9⟩, h10⟩, h11⟩ := h
  have m : Mom I' 7 (H0p, 0, 0) := by
    refine ⟨?_, fun j hj => ?_, ?_, ?_⟩
    · rw [e 7 (by omega), h1]
      show (1 : Int) = ((tk H0p).length : Int)
      rw [tk0]; rfl
    · have hj : j < (tk H0p).length := hj
      show I' 8 j = (tk H0p).getD j 0
      rw [tk0] at hj ⊢
      have : j = 0 := by simpa using hj
      subst this
      rw [e 8 (by omega), h2]; rfl
    · rw [e 7 (by omega)]; exact h3
    · rw [e 7 (by omega)]; exact h4
  refine ⟨m, hA, ⟨Nat.zero_le _, by rw [e 51 (by omega)]; exact h5, 0, by omega, by rw [e 51 (by omega)]; exact h6, fun k hk => absurd hk (Nat.not_lt_zero _)⟩, fun i hi => ⟨?_, fun z => by cases z⟩, ⟨by rw [e 0 (by omega)]; exact h9, fun j hj => absurd hj (Nat.not_lt_zero _)⟩, ⟨by rw [e 0 (by omega)]; exact h10, fun j hj => absurd hj (Nat.not_lt_zero _)⟩, by rw [e 0 (by omega)]; exact h11⟩
  rw [e 74 (by omega)]
  rcases (by omega : i = 0 ∨ i = 1) with rfl | rfl
  · exact h7
  · exact h8
set_option maxRecDepth 100000 in
theorem dX160 : decode (kC 7) 160 = .ok (.invokevirtual 85, 3) := by decide +kernel
set_option maxRecDepth 100000 in
theorem dX163 : decode (kC 7) 163 = .ok (.return_, 1) := by decide +kernel
set_option maxRecDepth 100000 in
theorem dM290 : decode (kC 8) 290 = .ok (.invokevirtual 110, 3) := by decide +kernel
set_option maxRecDepth 100000 in
theorem dM293 : decode (kC 8) 293 = .ok (.return_, 1) := by decide +kernel
theorem okI0 : okI Zm := fun _ _ => inR_0
theorem cXan : ∃ pl, (8, 85, 101, 0, pl) ∈ ctab := by
  obtain ⟨q, h1, h2⟩ := List.any_eq_true.mp (show ctab.any (fun q => Nat.beq q.1 8 && Nat.beq q.2.1 85 && Nat.beq q.2.2.1 101 && Nat.beq q.2.2.2.1 0) = true by decide +kernel)
  obtain ⟨q1, q2, q3, q4, q5⟩ := q
  simp only [Bool.and_eq_true] at h2
  rw [Nat.eq_of_beq_eq_true h2.1.1.1, Nat.eq_of_beq_eq_true h2.1.1.2, Nat.eq_of_beq_eq_true h2.1.2, Nat.eq_of_beq_eq_true h2.2] at h1
  exact ⟨q5, h1⟩
theorem cMla : ∃ pl, (9, 110, 127, 0, pl) ∈ ctab := by
  obtain ⟨q, h1, h2⟩ := List.any_eq_true.mp (show ctab.any (fun q => Nat.beq q.1 9 && Nat.beq q.2.1 110 && Nat.beq q.2.2.1 127 && Nat.beq q.2.2.2.1 0) = true by decide +kernel)
  obtain ⟨q1, q2, q3, q4, q5⟩ := q
  simp only [Bool.and_eq_true] at h2
  rw [Nat.eq_of_beq_eq_true h2.1.1.1, Nat.eq_of_beq_eq_true h2.1.1.2, Nat.eq_of_beq_eq_true h2.1.2, Nat.eq_of_beq_eq_true h2.2] at h1
  exact ⟨q5, h1⟩
theorem rmX : (mRm 101).frames + 1 ≤ (kRm 7).frames ∧ 8 + (mL 101 + 11) + (mRm 101).locals ≤ (kRm 7).locals := by decide +kernel
theorem rmM : (mRm 127).frames + 1 ≤ (kRm 8).frames ∧ 8 + (mL 127 + 11) + (mRm 127).locals ≤ (kRm 8).locals := by decide +kernel
theorem FOK_nil {n : Nat} : FOK n [] := fun _ _ _ h _ => by cases h
theorem ctorX (l : Launch) (D : Dw) : KMet l D 7 0 1 [] Zm 77 FX PmX := by
  have hc := chkX
  cases hr : resX with
  | none => rw [hr] at hc; cases hc
  | some r =>
    rw [hr] at hc
    have hFX : FX = r.2.2.2.2.1 := by unfold FX; rw [hr]
    have hr' : kx 0 400 7 0 [(0, .inr (some 0))] [] (1, [], [], 0, 0) = some r := hr
    have hS : To 0 7 0 [(0, .inr (some 0))] [] (1, [], [], 0, 0) r := kx_sound (lo := 0) 400 7 0 _ _ _ _ (by decide) hr'
    clear hr hr'
    rw [hFX]
    clear hFX
    obtain ⟨pc1, L1, st1, n1, F, U, a1, a2⟩ := r
    unfold okX at hc
    simp only [Bool.and_eq_true] at hc
    obtain ⟨⟨⟨⟨⟨⟨⟨c1, c2⟩, c3⟩, c4⟩, c5⟩, c6⟩, c7⟩, c8⟩ := hc
    have c1 := Nat.eq_of_beq_eq_true c1
    have c2 := isThis_spec c2
    have c3 := Nat.eq_of_beq_eq_true c3
    subst c1 c2 c3
    dsimp only
    refine KMet_of (by decide) (by decide) FOK_nil okI0 (fun p e s m args below meth c ad0 C => ?_)
    have h9 := hS.2 Zm (fun _ _ _ => rfl) (xk p l e s m args below meth c D ad0 1 7 77 F PmX) C (Nat.le_refl 1)
    refine h9 ?_
    clear h9 hS
    dsimp only
    obtain ⟨pl, hpl⟩ := cXan
    have hNow : NowOK (iof Zm U) H0p := by
      unfold memX at c6
      simp only [Bool.and_eq_true, decide_eq_true_eq] at c6
      refine ⟨by rw [c6.1.1.1.1.1.1.1.1.1.1, tk0]; rfl, fun j hj => ?_⟩
      rw [tk0] at hj ⊢
      have : j = 0 := by simpa using hj
      subst this
      rw [c6.1.1.1.1.1.1.1.1.1.2]; rfl
    refine K_meth (o := 8) (as := []) (st := []) (Q2 := fun r I' => r = none ∧ PmX I') C.1 rfl dX160 hpl rfl rfl (by decide) ⟨_, rfl, rfl⟩ rmX (by decide) (Or.inl rfl) (fullF_spec c4) ⟨Nat.le_of_ble_eq_true c7, Nat.le_of_ble_eq_true c8⟩ (R_analyse prog0 hNow (fun I' hA hf => ⟨rfl, memX_spec c6 hA hf, fun id k hid => ?_⟩)) (fun r I' hq => ?_)
    · rw [hf id (by omega)]
      exact lowU_spec c5 id k hid
    · obtain ⟨rfl, hq⟩ := hq
      exact K_ret C dX163 (Nat.le_of_ble_eq_true c7) (Nat.le_of_ble_eq_true c8) hq
theorem ctorM (l : Launch) (D : Dw) {I : Mem} (hI : PmX I) (hF : FOK 78 FX) (oI : okI I) : KMet l D 8 77 78 FX I 111 FM PmM := by
  have hc := chkM
  cases hr : resM with
  | none => rw [hr] at hc; cases hc
  | some r =>
    rw [hr] at hc
    have hFM : FM = r.2.2.2.2.1 := by unfold FM; rw [hr]
    have hr' : kx 77 400 8 0 [(0, .inr (some 77))] [] (78, FX, [], 0, 0) = some r := hr
    have hS : To 77 8 0 [(0, .inr (some 77))] [] (78, FX, [], 0, 0) r := kx_sound (lo := 77) 400 8 0 _ _ _ _ (by decide) hr'
    clear hr hr'
    rw [hFM]
    clear hFM
    generalize FX = G at hS hF ⊢
    obtain ⟨pc1, L1, st1, n1, F, U, a1, a2⟩ := r
    unfold okM at hc
    simp only [Bool.and_eq_true, decide_eq_true_eq] at hc
    obtain ⟨⟨⟨⟨⟨⟨c1, c2⟩, c3⟩, c4⟩, c5⟩, c7⟩, c8⟩ := hc
    have c1 := Nat.eq_of_beq_eq_true c1
    have c2 := isThis_spec c2
    have c3 := Nat.eq_of_beq_eq_true c3
    subst c1 c2 c3 c5
    dsimp only
    refine KMet_of (by decide) (by decide) hF oI (fun p e s m args below meth c ad0 C => ?_)
    have h9 := hS.2 I hI.2 (xk p l e s m args below meth c D ad0 78 8 111 F PmM) C (Nat.le_refl 78)
    refine h9 ?_
    clear h9 hS
    obtain ⟨pl, hpl⟩ := cMla
    have eJ : iof I [(79, 60, 1), (79, 0, 48)] = upd2 (upd2 I 79 0 48) 79 60 1 := rfl
    dsimp only
    rw [eJ]
    generalize hJ : upd2 (upd2 I 79 0 48) 79 60 1 = J
    have j9 : ∀ k, k ≠ 0 → k ≠ 60 → J 79 k = 0 := fun k a b => by rw [← hJ, upd2_at, if_neg (fun z => b z.2), upd2_at, if_neg (fun z => a z.2)]; exact hI.2 79 k (by decide)
    have j60 : J 79 60 = 1 := by rw [← hJ]; simp [upd2]
    have j0 : J 79 0 = 48 := by rw [← hJ]; simp [upd2]
    have ji : ∀ id, id ≠ 79 → J id = I id := fun id a => by rw [← hJ, upd2_id a, upd2_id a]
    refine K_meth (o := 9) (as := []) (st := []) (Q2 := fun r I' => r = none ∧ PmM I') C.1 rfl dM290 hpl rfl rfl (by decide) ⟨_, rfl, rfl⟩ rmM (by decide) (Or.inr rfl) (fullF_spec c4) ⟨Nat.le_of_ble_eq_true c7, Nat.le_of_ble_eq_true c8⟩ (R_lays prog0 (by rw [j60, tk0]; rfl) (fun j hj => ?_) (fun I' hA f1 g1 => ⟨rfl, ?_, ?_⟩)) (fun r I' hq => ?_)
    · rw [tk0] at hj ⊢
      have : j = 0 := by simpa using hj
      subst this
      rw [j0]; rfl
    · exact hI.1.fr (fun id hid => by rw [f1 id (by omega) (by omega), ji id (by omega)])
    · have z7 : ∀ k, k ≠ 20 → I' 77 k = 0 := fun k hk => by rw [g1 k hk, ji 77 (by decide)]; exact hI.2 77 k (by decide)
      refine ⟨hA, ⟨by rw [f1 79 (by decide) (by omega)]; exact j9 61 (by decide) (by decide), by rw [f1 79 (by decide) (by omega)]; exact j9 62 (by decide) (by decide)⟩, ⟨Nat.zero_le _, z7 5 (by decide), fun k hk => absurd hk (Nat.not_lt_zero _)⟩, fun i hi => ⟨?_, fun z => by cases z⟩, ⟨z7 2 (by decide), fun j hj => absurd hj (Nat.not_lt_zero _)⟩, ⟨z7 11 (by decide), fun j hj => absurd hj (Nat.not_lt_zero _)⟩, z7 9 (by decide)⟩
      rw [f1 82 (by decide) (by omega), ji 82 (by decide)]
      exact hI.2 82 i (by decide)
    · obtain ⟨rfl, hq⟩ := hq
      exact K_ret C dM293 (Nat.le_of_ble_eq_true c7) (Nat.le_of_ble_eq_true c8) hq
