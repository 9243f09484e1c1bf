/-! The executor is sound. -/
def Zr (lo : Nat) (J : Mem) : Prop := ∀ id k, lo ≤ id → J id k = 0
def To (lo j pc : Nat) (L : List (Nat × AV)) (st : List AV) (S : CS) (r : Rs) : Prop := S.1 ≤ r.2.2.2.1 ∧ ∀ (J : Mem), Zr lo J → ∀ X : Kx, KC2 X j → X.n0 ≤ S.1 →
  KW X r.2.2.2.2.2.2.1 r.2.2.2.2.2.2.2 r.1 r.2.1 r.2.2.1 r.2.2.2.1 r.2.2.2.2.1 (iof J r.2.2.2.2.2.1) → KW X S.2.2.2.1 S.2.2.2.2 pc L st S.1 S.2.1 (iof J S.2.2.1)
def Sd (lo : Nat) (rec : Rc) : Prop := ∀ j pc L st S r, j < 9 → rec j pc L st S = some r → To lo j pc L st S r
theorem To.step {lo j pc pc1 : Nat} {L L1 : List (Nat × AV)} {st st1 : List AV} {S S1 : CS} {r : Rs} (h : To lo j pc1 L1 st1 S1 r) (hn : S.1 ≤ S1.1)
    (hk : ∀ (J : Mem) (X : Kx), Zr lo J → KC2 X j → X.n0 ≤ S.1 → KW X S1.2.2.2.1 S1.2.2.2.2 pc1 L1 st1 S1.1 S1.2.1 (iof J S1.2.2.1) → KW X S.2.2.2.1 S.2.2.2.2 pc L st S.1 S.2.1 (iof J S.2.2.1)) : To lo j pc L st S r :=
  ⟨Nat.le_trans hn h.1, fun J hJ X C h0 k => hk J X hJ C h0 (h.2 J hJ X C (Nat.le_trans h0 hn) k)⟩
theorem freshU_0 {n : Nat} {U : Up} {J : Mem} (h : freshU n U = true) (hJ : ∀ k, J n k = 0) : ∀ k, iof J U n k = 0 := by
  induction U with
  | nil => exact hJ
  | cons q l ih =>
    unfold freshU at h
    rw [List.all_cons, Bool.and_eq_true] at h
    intro k
    show upd2 (iof J l) q.1 q.2.1 q.2.2 n k = 0
    unfold upd2
    rw [if_neg (fun z => by rw [← z.1, Nat.beq_refl] at h; exact absurd h.1 (by decide))]
    exact ih h.2 k
theorem freshF_0 {n : Nat} {F : Fl} (h : freshF n F = true) : ∀ k, inF F n k = false := by
  induction F with
  | nil => intro k; rfl
  | cons q l ih =>
    unfold freshF at h
    rw [List.all_cons, Bool.and_eq_true] at h
    intro k
    show ((Nat.beq n q.1 && Nat.beq k q.2) || inF l n k) = false
    rw [ih h.2 k]
    cases hb : Nat.beq n q.1 with
    | false => rfl
    | true => rw [Nat.eq_of_beq_eq_true hb, Nat.beq_refl] at h; exact absurd h.1 (by decide)
theorem newOk_spec {lo : Nat} {d : Kd} {S : CS} (h : newOk lo d S = true) : lo ≤ S.1 ∧ S.1 < N2 ∧ sz S.1 ≤ 1000 ∧ freshU S.1 S.2.2.1 = true ∧ freshF S.1 S.2.1 = true ∧ S.2.2.2.1 + 1 ≤ d.2.2.2.1.2.1 ∧ S.2.2.2.2 + sz S.1 ≤ d.2.2.2.1.2.2.1 := by
  unfold newOk at h
  simp only [Bool.and_eq_true] at h
  obtain ⟨⟨⟨⟨⟨⟨h1, h2⟩, h3⟩, h4⟩, h5⟩, h6⟩, h7⟩ := h
  exact ⟨Nat.le_of_ble_eq_true h1, Nat.le_of_ble_eq_true h2, Nat.le_of_ble_eq_true h3, h4, h5, Nat.le_of_ble_eq_true h6, Nat.le_of_ble_eq_true h7⟩
theorem ownOf {j id : Nat} (hj : j < 9) (h : kd id = j) : ∀ r, vwCl[kd id]? = some r → r.1 = (kY j).cls := by
  intro r hr
  obtain ⟨r2, h1, h2, -⟩ := (kok hj).2.2.1
  rw [h] at hr
  rw [hr] at h1
  cases h1
  exact h2
theorem krm_all : (List.range 9).all (fun j => Nat.ble 1 (kRm j).frames && Nat.ble 12 (kRm j).locals) = true := by decide +kernel
theorem krm_ok {j : Nat} (hj : j < 9) : 1 ≤ (kRm j).frames ∧ 12 ≤ (kRm j).locals := by
  have h := List.all_eq_true.mp krm_all j (List.mem_range.mpr hj)
  rw [Bool.and_eq_true] at h
  exact ⟨Nat.le_of_ble_eq_true h.1, Nat.le_of_ble_eq_true h.2⟩
section KSound
variable {lo : Nat} {rec : Rc} {j : Nat} {L : List (Nat × AV)} {st : List AV} {S : CS} {r : Rs}
set_option maxHeartbeats 4000000 in
theorem kst_sound (hrec : Sd lo rec) (hj : j < 9) {e : Ent} (he : e ∈ kT j) (h : kst lo rec j e L st S = some r) : To lo j e.1 L st S r := by
  have hok := kk_all hj he
  obtain ⟨pc, ins, len, a, b, d⟩ := e
  unfold okK at hok
  simp only [Bool.and_eq_true, decide_eq_true_eq] at hok
  obtain ⟨hdec, hok⟩ := hok
  have hdec : decode (kC j) pc = .ok (ins, len) := hdec
  have hcn := (kok hj).2.2.2.2.2.1
  show To lo j pc L st S r
  cases ins with
  | return_ => cases h; exact ⟨Nat.le_refl _, fun J hJ X C h0 k => k⟩
  | invokevirtual _ => cases h; exact ⟨Nat.le_refl _, fun J hJ X C h0 k => k⟩
  | iconst v =>
    simp only [okK2, Bool.and_eq_true, beq_iff_eq, decide_eq_true_eq] at hok
    obtain ⟨⟨rfl, h1⟩, h2⟩ := hok
    exact (hrec _ _ _ _ _ _ hj h).step (Nat.le_refl _) (fun J X hJ C h0 k => K_iconst C.1 hdec ⟨h1, h2⟩ k)
  | bipush v =>
    simp only [okK2, Bool.and_eq_true, beq_iff_eq, decide_eq_true_eq] at hok
    obtain ⟨⟨rfl, h1⟩, h2⟩ := hok
    exact (hrec _ _ _ _ _ _ hj h).step (Nat.le_refl _) (fun J X hJ C h0 k => K_bipush C.1 hdec h1 h2 k)
  | sipush v =>
    simp only [okK2, Bool.and_eq_true, beq_iff_eq, decide_eq_true_eq] at hok
    obtain ⟨⟨rfl, h1⟩, h2⟩ := hok
    exact (hrec _ _ _ _ _ _ hj h).step (Nat.le_refl _) (fun J X hJ C h0 k => K_sipush C.1 hdec h1 h2 k)
  | iload_n i =>
    simp only [okK2, beq_iff_eq] at hok
    subst hok
    unfold kst at h
    dsimp only at h
    split at h
    next x hg => exact (hrec _ _ _ _ _ _ hj h).step (Nat.le_refl _) (fun J X hJ C h0 k => K_iload_n C.1 hdec hg k)
    next => cases h
  | aload_n i =>
    simp only [okK2, beq_iff_eq] at hok
    subst hok
    unfold kst at h
    dsimp only at h
    split at h
    next x hg => exact (hrec _ _ _ _ _ _ hj h).step (Nat.le_refl _) (fun J X hJ C h0 k => K_aload_n C.1 hdec hg k)
    next => cases h
  | istore_n i =>
    simp only [okK2, Bool.and_eq_true, beq_iff_eq, decide_eq_true_eq] at hok
    obtain ⟨rfl, h1⟩ := hok
    unfold kst at h
    dsimp only at h
    split at h
    next x t => exact (hrec _ _ _ _ _ _ hj h).step (Nat.le_refl _) (fun J X hJ C h0 k => K_istore_n C.1 hdec (by rw [C.2.2.2.2.1]; exact h1) (by rw [C.2.2.2.2.2.2]; exact fun q hq => absurd hq List.not_mem_nil) k)
    next => cases h
  | iinc i v =>
    simp only [okK2, Bool.and_eq_true, beq_iff_eq, decide_eq_true_eq] at hok
    obtain ⟨rfl, h1⟩ := hok
    unfold kst at h
    dsimp only at h
    split at h
    next x hg => exact (hrec _ _ _ _ _ _ hj h).step (Nat.le_refl _) (fun J X hJ C h0 k => K_iinc C.1 hdec (by rw [C.2.2.2.2.1]; exact h1) (by rw [C.2.2.2.2.2.2]; exact fun q hq => absurd hq List.not_mem_nil) hg k)
    next => cases h
  | dup =>
    simp only [okK2, beq_iff_eq] at hok
    subst hok
    unfold kst at h
    dsimp only at h
    split at h
    next v t => exact (hrec _ _ _ _ _ _ hj h).step (Nat.le_refl _) (fun J X hJ C h0 k => K_dup C.1 hdec k)
    next => cases h
  | goto off =>
    simp only [okK2, Bool.and_eq_true, beq_iff_eq, decide_eq_true_eq] at hok
    obtain ⟨rfl, h1⟩ := hok
    exact (hrec _ _ _ _ _ _ hj h).step (Nat.le_refl _) (fun J X hJ C h0 k => K_goto C.1 hdec h1 k)
  | if_icmp cnd off =>
    simp only [okK2, Bool.and_eq_true, beq_iff_eq, decide_eq_true_eq] at hok
    obtain ⟨rfl, h1⟩ := hok
    unfold kst at h
    dsimp only at h
    cases cnd with
    | ge =>
      match st, h with
      | .inl b' :: .inl a' :: t, h =>
        have h : (if b' ≤ a' then rec j a L t S else rec j (pc + 3) L t S) = some r := h
        by_cases hc : b' ≤ a'
        · rw [if_pos hc] at h
          exact (hrec _ _ _ _ _ _ hj h).step (Nat.le_refl _) (fun J X hJ C h0 k => K_ge C.1 hdec h1 (fun _ => k) (fun z => absurd hc z))
        · rw [if_neg hc] at h
          exact (hrec _ _ _ _ _ _ hj h).step (Nat.le_refl _) (fun J X hJ C h0 k => K_ge C.1 hdec h1 (fun z => absurd z hc) (fun _ => k))
      | [], h => cases h
      | [.inl _], h => cases h
      | .inr _ :: _, h => cases h
      | .inl _ :: .inr _ :: _, h => cases h
    | _ => cases h
  | new idx =>
    simp only [okK2, Bool.and_eq_true, beq_iff_eq, decide_eq_true_eq] at hok
    obtain ⟨⟨rfl, h1⟩, h2⟩ := hok
    unfold kst at h
    dsimp only at h
    split at h
    next hb =>
      rw [Bool.and_eq_true] at hb
      obtain ⟨g1, g2, g3, g4, g5, g6, g7⟩ := newOk_spec hb.1
      have hk := Nat.eq_of_beq_eq_true hb.2
      refine (hrec _ _ _ _ _ _ hj h).step (Nat.le_succ _) (fun J X hJ C h0 k => ?_)
      have hR := C.2.2.2.2.2.1
      exact K_new C.1 hdec (by rw [hk]; exact h1) g2 (by rw [hk]; exact gw_of (List.mem_of_getElem? h2) rfl) h0 (freshU_0 g4 (fun k => hJ _ k g1)) (freshF_0 g5) (by rw [hR]; exact g6) (by rw [hR]; exact g7) k
    next => cases h
  | newarray t =>
    simp only [okK2, beq_iff_eq] at hok
    subst hok
    unfold kst at h
    dsimp only at h
    split at h
    next v t' =>
      split at h
      next hb =>
        rw [Bool.and_eq_true, decide_eq_true_eq] at hb
        obtain ⟨g1, g2, g3, g4, g5, g6, g7⟩ := newOk_spec hb.1
        split at h
        next =>
          split at h
          next hk =>
            refine (hrec _ _ _ _ _ _ hj h).step (Nat.le_succ _) (fun J X hJ C h0 k => ?_)
            have hR := C.2.2.2.2.2.1
            exact K_newI C.1 hdec (Nat.eq_of_beq_eq_true hk) hb.2 g3 h0 (freshU_0 g4 (fun k => hJ _ k g1)) (by rw [hR]; exact g6) (by rw [hR]; exact g7) k
          next => cases h
        next =>
          split at h
          next hk =>
            refine (hrec _ _ _ _ _ _ hj h).step (Nat.le_succ _) (fun J X hJ C h0 k => ?_)
            have hR := C.2.2.2.2.2.1
            exact K_newZ C.1 hdec (Nat.eq_of_beq_eq_true hk) hb.2 g3 h0 (freshU_0 g4 (fun k => hJ _ k g1)) (by rw [hR]; exact g6) (by rw [hR]; exact g7) k
          next => cases h
        next => cases h
      next => cases h
    next => cases h
  | anewarray idx =>
    simp only [okK2, Bool.and_eq_true, beq_iff_eq, decide_eq_true_eq] at hok
    obtain ⟨rfl, h2⟩ := hok
    unfold kst at h
    dsimp only at h
    split at h
    next v t' =>
      split at h
      next hb =>
        rw [Bool.and_eq_true, Bool.and_eq_true, decide_eq_true_eq] at hb
        obtain ⟨g1, g2, g3, g4, g5, g6, g7⟩ := newOk_spec hb.1.1
        refine (hrec _ _ _ _ _ _ hj h).step (Nat.le_succ _) (fun J X hJ C h0 k => ?_)
        have hR := C.2.2.2.2.2.1
        exact K_newQ C.1 hdec (gw_of (List.mem_of_getElem? h2) rfl) (Nat.eq_of_beq_eq_true hb.2) hb.1.2 g3 h0 (freshF_0 g5) (by rw [hR]; exact g6) (by rw [hR]; exact g7) k
      next => cases h
    next => cases h
  | getfield idx =>
    simp only [okK2, Bool.and_eq_true, beq_iff_eq] at hok
    obtain ⟨rfl, h2⟩ := hok
    unfold kst at h
    dsimp only at h
    split at h
    next id t =>
      split at h
      next r0 hr =>
        split at h
        next hb =>
          rw [Bool.and_eq_true, Bool.and_eq_true] at hb
          refine (hrec _ _ _ _ _ _ hj h).step (Nat.le_refl _) (fun J X hJ C h0 k => ?_)
          rw [← Nat.eq_of_beq_eq_true hb.1.1] at h2
          exact K_getR C.1 hcn hdec h2 (Nat.le_of_ble_eq_true hb.1.2) hr hb.2 k
        next => cases h
      next => cases h
    next => cases h
  | putfield idx =>
    simp only [okK2, Bool.and_eq_true, beq_iff_eq] at hok
    obtain ⟨rfl, h2⟩ := hok
    unfold kst at h
    dsimp only at h
    split at h
    next v id t =>
      split at h
      next hb =>
        simp only [Bool.and_eq_true, decide_eq_true_eq] at hb
        obtain ⟨⟨⟨⟨b1, b2⟩, b3⟩, b4⟩, b5⟩ := hb
        refine (hrec _ _ _ _ _ _ hj h).step (Nat.le_refl _) (fun J X hJ C h0 k => ?_)
        rw [← Nat.eq_of_beq_eq_true b1] at h2
        exact K_putI C.1 C.2.1 hcn (ownOf hj (Nat.eq_of_beq_eq_true b2)) hdec h2 (Nat.le_of_ble_eq_true b3) (Option.isNone_iff_eq_none.mp b4) b5 k
      next => cases h
    next r0 id t =>
      split at h
      next hb =>
        simp only [Bool.and_eq_true, decide_eq_true_eq] at hb
        obtain ⟨⟨⟨⟨b1, b2⟩, b3⟩, b4⟩, b5⟩ := hb
        refine (hrec _ _ _ _ _ _ hj h).step (Nat.le_refl _) (fun J X hJ C h0 k => ?_)
        rw [← Nat.eq_of_beq_eq_true b1] at h2
        exact K_putR C.1 C.2.1 hcn (ownOf hj (Nat.eq_of_beq_eq_true b2)) hdec h2 (Nat.le_of_ble_eq_true b3) b4 b5 k
      next => cases h
    next => cases h
  | iastore =>
    simp only [okK2, beq_iff_eq] at hok
    subst hok
    unfold kst at h
    dsimp only at h
    split at h
    next v i id t =>
      split at h
      next hb =>
        simp only [Bool.and_eq_true, decide_eq_true_eq] at hb
        refine (hrec _ _ _ _ _ _ hj h).step (Nat.le_refl _) (fun J X hJ C h0 k => ?_)
        exact K_iast C.1 hdec (Nat.eq_of_beq_eq_true hb.1.1) hb.1.2 hb.2 k
      next => cases h
    next => cases h
  | aastore =>
    simp only [okK2, beq_iff_eq] at hok
    subst hok
    unfold kst at h
    dsimp only at h
    split at h
    next r0 i id t =>
      split at h
      next hb =>
        simp only [Bool.and_eq_true, decide_eq_true_eq] at hb
        obtain ⟨⟨⟨⟨b1, b2⟩, b3⟩, b4⟩, b5⟩ := hb
        refine (hrec _ _ _ _ _ _ hj h).step (Nat.le_refl _) (fun J X hJ C h0 k => ?_)
        exact K_aast C.1 hdec (Nat.eq_of_beq_eq_true b1) b2 b3 (Nat.eq_of_beq_eq_true b4) b5 k
      next => cases h
    next => cases h
  | invokespecial idx =>
    simp only [okK2, Bool.and_eq_true, beq_iff_eq] at hok
    obtain ⟨rfl, h2⟩ := hok
    unfold kst at h
    dsimp only at h h2
    split at h
    next id t =>
      split at h
      next hb =>
        rw [hb] at h2
        simp only [decide_eq_true_eq] at h2
        split at h
        next =>
          refine (hrec _ _ _ _ _ _ hj h).step (Nat.le_refl _) (fun J X hJ C h0 k => ?_)
          have hR := C.2.2.2.2.2.1
          refine K_obj C.1 hdec (gw_of (List.mem_of_getElem? h2) rfl) (Or.inr ⟨?_, ?_, rfl⟩) (by simp) k
          · rw [hR]
            exact (krm_ok hj).1
          · rw [hR]
            exact (krm_ok hj).2
        next => cases h
      next hb =>
        rw [hb] at h2
        simp only [Bool.and_eq_true, decide_eq_true_eq, krOk] at h2
        obtain ⟨⟨ha, h3⟩, h4, h5⟩ := h2
        split at h
        next r2 hr2 =>
          have hcal := hrec _ _ _ _ _ _ ha hr2
          split at h
          next hst2 =>
            split at h
            next hb2 =>
              simp only [Bool.and_eq_true] at hb2
              obtain ⟨⟨⟨⟨⟨c1, c2⟩, c3⟩, c4⟩, c5⟩, c6⟩ := hb2
              have hle : S.1 ≤ r2.2.2.2.1 := hcal.1
              refine (hrec _ _ _ _ _ _ hj h).step hle (fun J X hJ C h0 k => ?_)
              have hR := C.2.2.2.2.2.1
              refine K_call (Pm := fun I' => I' = iof J r2.2.2.2.2.2.1) C.1 hdec ha (gw_of (List.mem_of_getElem? h3) rfl) (by rw [hR]; exact ⟨h4, h5⟩) (by rw [hR]; exact ⟨Nat.le_of_ble_eq_true c4, Nat.le_of_ble_eq_true c5⟩) (Nat.le_of_ble_eq_true c6) h0 hle (fun hid hF oI => KMet_of ha hid hF oI (fun p e s m args below meth c ad0 C2 => ?_)) (fun I' hI' => by rw [hI']; exact k)
              refine hcal.2 J hJ _ C2 (Nat.le_refl _) ?_
              rw [hst2]
              unfold isRet at c1
              split at c1
              next e2 he2 =>
                split at c1
                next hins =>
                  obtain ⟨f1, f2⟩ := findE_spec he2
                  have hok2 := kk_all ha f1
                  unfold okK at hok2
                  simp only [Bool.and_eq_true, decide_eq_true_eq] at hok2
                  obtain ⟨hd2, hok2⟩ := hok2
                  have hlen : e2.2.2.1 = 1 := by
                    unfold okK2 at hok2
                    rw [hins] at hok2
                    simpa using hok2
                  rw [hins, hlen, f2] at hd2
                  exact K_ret C2 hd2 (Nat.le_of_ble_eq_true c2) (Nat.le_of_ble_eq_true c3) rfl
                next => cases c1
              next => cases c1
            next => cases h
          next => cases h
        next => cases h
    next => cases h
  | _ => cases h
theorem kx_sound : ∀ f, Sd lo (kx lo f) := by
  intro f
  induction f with
  | zero => intro j pc L st S r hj h; cases h
  | succ f ih =>
    intro j pc L st S r hj h
    unfold kx at h
    split at h
    next => cases h
    next e he =>
      obtain ⟨e1, e2⟩ := findE_spec he
      rw [← e2]
      exact kst_sound ih hj e1 h
end KSound
