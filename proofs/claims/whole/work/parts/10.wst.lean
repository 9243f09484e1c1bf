/-! wst, and with it wseg, is sound. -/
section WS
variable {prim : Prim} {k : Nat} {Q : Post} {c : Cont} {L : List (Nat × AV)} {st : List AV} {I : Mem} {pc len a b d : Nat}
theorem rooms_of {d : Md} {a : Nat} {k : Nat} (hd : d = mdOf k) (h : roomOk d a = true) : (mRm a).frames + 1 ≤ (mRm k).frames ∧ 8 + (mL a + 11) + (mRm a).locals ≤ (mRm k).locals := by
  subst hd
  unfold roomOk at h
  simp only [Bool.and_eq_true, decide_eq_true_eq] at h
  exact h
theorem wcall_static (hp : PrimOk prim) (hc : ∀ pc L st I, c pc L st I → R k pc L st I Q) {idx : Nat} (hdec : decode (mC k) pc = .ok (.invokestatic idx, 3)) (hct : ∃ nest pl, (mO k, idx, a, nest, pl) ∈ ctab) (hst : (mP a).2.2.2.2.1 = true) (hb : b = (mP a).2.2.2.2.2) (hL : b ≤ mL a) (hrm : (mRm a).frames + 1 ≤ (mRm k).frames ∧ 8 + (mL a + 11) + (mRm a).locals ≤ (mRm k).locals)
    (h : wcall prim k Q (pc, .invokestatic idx, len, a, b, d) c L st I) : R k pc L st I Q := by
  unfold wcall at h
  dsimp only at h
  cases hpop : popN b [] st with
  | none => rw [hpop] at h; exact h.elim
  | some x =>
    obtain ⟨as, rest⟩ := x
    rw [hpop] at h
    dsimp only at h
    obtain ⟨bs, h1, h2, h3⟩ := popN_spec _ _ _ _ _ hpop
    rw [List.append_nil] at h2
    subst h2
    subst h3
    obtain ⟨nest, pl, hct⟩ := hct
    cases h8 : Nat.ble rest.length 8 with
    | false => rw [h8] at h; exact h.elim
    | true =>
      rw [h8] at h
      dsimp only at h
      have h8 := Nat.le_of_ble_eq_true h8
      have go : ∀ Q2 : Post, R a 0 (enumL 0 as) [] I Q2 → (∀ r I', Q2 r I' → R k (pc + 3) L (r.toList ++ rest) I' Q) → R k pc L (as.reverse ++ rest) I Q := fun Q2 => R_static hdec hct hst (by rw [h1, hb]) (by rw [h1]; exact hL) hrm h8
      cases hpr : prim a as I with
      | some t =>
        rw [hpr] at h
        dsimp only at h
        obtain ⟨g1, g2⟩ := hp _ _ _ _ hpr _ h
        exact go _ g2 (fun r I' hr => by rw [hr.1, hr.2]; exact hc _ _ _ _ g1)
      | none =>
        rw [hpr] at h
        dsimp only at h
        split at h
        · exact go _ h (fun r I' hr => by rw [hr.1]; exact hc _ _ _ _ hr.2)
        · exact go _ h (fun r I' hr => hr)
        · exact go _ h (fun r I' hr => by obtain ⟨v, e1, e2⟩ := hr; rw [e1]; exact hc _ _ _ _ e2)
theorem wcall_virtual (hp : PrimOk prim) (hc : ∀ pc L st I, c pc L st I → R k pc L st I Q) {idx : Nat} (hdec : decode (mC k) pc = .ok (.invokevirtual idx, 3)) (hct : ∃ pl, (mO k, idx, a, 0, pl) ∈ ctab) (hst : (mP a).2.2.2.2.1 = false) (hb : b = (mP a).2.2.2.2.2 + 1) (hL : b ≤ mL a) (hrm : (mRm a).frames + 1 ≤ (mRm k).frames ∧ 8 + (mL a + 11) + (mRm a).locals ≤ (mRm k).locals)
    {id : Nat} {tl rs : List AV} (hrecv : popN b [] st = some (.inr (some id) :: tl, rs)) (hcl : ∃ r, vwCl[kd id]? = some r ∧ r.1 = (mY a).cls)
    (h : wcall prim k Q (pc, .invokevirtual idx, len, a, b, d) c L st I) : R k pc L st I Q := by
  unfold wcall at h
  dsimp only at h
  rw [hrecv] at h
  dsimp only at h
  obtain ⟨bs, h1, h2, h3⟩ := popN_spec _ _ _ _ _ hrecv
  rw [List.append_nil] at h2
  subst h2
  subst h3
  obtain ⟨pl, hct⟩ := hct
  cases h8 : Nat.ble rs.length 8 with
  | false => rw [h8] at h; exact h.elim
  | true =>
    rw [h8] at h
    dsimp only at h
    have h8 := Nat.le_of_ble_eq_true h8
    have e0 : (Sum.inr (some id) :: tl : List AV).reverse ++ rs = tl.reverse ++ .inr (some id) :: rs := by simp
    rw [e0]
    have hln : tl.length = (mP a).2.2.2.2.2 := by rw [hb] at h1; simpa using h1
    have go : ∀ Q2 : Post, R a 0 (enumL 0 (.inr (some id) :: tl)) [] I Q2 → (∀ r I', Q2 r I' → R k (pc + 3) L (r.toList ++ rs) I' Q) → R k pc L (tl.reverse ++ .inr (some id) :: rs) I Q := fun Q2 => R_virtual hdec hct (by decide) hst hln (by rw [hln, ← hb]; exact hL) hcl hrm h8
    cases hpr : prim a (.inr (some id) :: tl) I with
    | some t =>
      rw [hpr] at h
      dsimp only at h
      obtain ⟨g1, g2⟩ := hp _ _ _ _ hpr _ h
      exact go _ g2 (fun r I' hr => by rw [hr.1, hr.2]; exact hc _ _ _ _ g1)
    | none =>
      rw [hpr] at h
      dsimp only at h
      split at h
      · exact go _ h (fun r I' hr => by rw [hr.1]; exact hc _ _ _ _ hr.2)
      · exact go _ h (fun r I' hr => hr)
      · exact go _ h (fun r I' hr => by obtain ⟨v, e1, e2⟩ := hr; rw [e1]; exact hc _ _ _ _ e2)
set_option maxHeartbeats 4000000 in
theorem wst_sound (hp : PrimOk prim) (hc : ∀ pc L st I, c pc L st I → R k pc L st I Q) {e : Ent} (hok : okEnt (mdOf k) e = true) (h : wst prim k Q e c L st I) : R k e.1 L st I Q := by
  obtain ⟨pc, ins, len, a, b, d⟩ := e
  unfold okEnt at hok
  simp only [Bool.and_eq_true, decide_eq_true_eq] at hok
  obtain ⟨hdec, hok⟩ := hok
  have hdec : decode (mC k) pc = .ok (ins, len) := hdec
  show R k pc L st I Q
  cases ins with
  | iconst n =>
    simp only [okI2, Bool.and_eq_true, beq_iff_eq, decide_eq_true_eq] at hok
    obtain ⟨⟨rfl, h1⟩, h2⟩ := hok
    exact R_iconst hdec ⟨h1, h2⟩ (hc _ _ _ _ h)
  | bipush n =>
    simp only [okI2, Bool.and_eq_true, beq_iff_eq, decide_eq_true_eq] at hok
    obtain ⟨⟨rfl, h1⟩, h2⟩ := hok
    exact R_bipush hdec h1 h2 (hc _ _ _ _ h)
  | sipush n =>
    simp only [okI2, Bool.and_eq_true, beq_iff_eq, decide_eq_true_eq] at hok
    obtain ⟨⟨rfl, h1⟩, h2⟩ := hok
    exact R_sipush hdec h1 h2 (hc _ _ _ _ h)
  | iload_n i =>
    simp only [okI2, beq_iff_eq] at hok
    subst hok
    unfold wst at h
    dsimp only at h
    split at h
    next x hg => exact R_iload_n hdec hg (hc _ _ _ _ h)
    next => exact h.elim
  | iload i =>
    simp only [okI2, beq_iff_eq] at hok
    subst hok
    unfold wst at h
    dsimp only at h
    split at h
    next x hg => exact R_iload hdec hg (hc _ _ _ _ h)
    next => exact h.elim
  | aload_n i =>
    simp only [okI2, beq_iff_eq] at hok
    subst hok
    unfold wst at h
    dsimp only at h
    split at h
    next x hg => exact R_aload_n hdec hg (hc _ _ _ _ h)
    next => exact h.elim
  | aload i =>
    simp only [okI2, beq_iff_eq] at hok
    subst hok
    unfold wst at h
    dsimp only at h
    split at h
    next x hg => exact R_aload hdec hg (hc _ _ _ _ h)
    next => exact h.elim
  | istore_n i =>
    simp only [okI2, Bool.and_eq_true, beq_iff_eq, decide_eq_true_eq] at hok
    obtain ⟨rfl, h1⟩ := hok
    unfold wst at h
    dsimp only at h
    split at h
    next x r => exact R_istore_n hdec h1 (hc _ _ _ _ h)
    next => exact h.elim
  | istore i =>
    simp only [okI2, Bool.and_eq_true, beq_iff_eq, decide_eq_true_eq] at hok
    obtain ⟨rfl, h1⟩ := hok
    unfold wst at h
    dsimp only at h
    split at h
    next x r => exact R_istore hdec h1 (hc _ _ _ _ h)
    next => exact h.elim
  | astore_n i =>
    simp only [okI2, Bool.and_eq_true, beq_iff_eq, decide_eq_true_eq] at hok
    obtain ⟨rfl, h1⟩ := hok
    unfold wst at h
    dsimp only at h
    split at h
    next x r => exact R_astore_n hdec h1 (hc _ _ _ _ h)
    next => exact h.elim
  | iinc i n =>
    simp only [okI2, Bool.and_eq_true, beq_iff_eq, decide_eq_true_eq] at hok
    obtain ⟨rfl, h1⟩ := hok
    unfold wst at h
    dsimp only at h
    split at h
    next x hg => exact R_iinc hdec h1 hg (hc _ _ _ _ h)
    next => exact h.elim
  | iadd =>
    simp only [okI2, beq_iff_eq] at hok
    subst hok
    unfold wst at h
    dsimp only at h
    split at h
    next => exact R_iadd hdec (hc _ _ _ _ h)
    next => exact h.elim
  | isub =>
    simp only [okI2, beq_iff_eq] at hok
    subst hok
    unfold wst at h
    dsimp only at h
    split at h
    next => exact R_isub hdec (hc _ _ _ _ h)
    next => exact h.elim
  | imul =>
    simp only [okI2, beq_iff_eq] at hok
    subst hok
    unfold wst at h
    dsimp only at h
    split at h
    next => exact R_imul hdec (hc _ _ _ _ h)
    next => exact h.elim
  | iand =>
    simp only [okI2, beq_iff_eq] at hok
    subst hok
    unfold wst at h
    dsimp only at h
    split at h
    next => exact R_iand hdec (hc _ _ _ _ h)
    next => exact h.elim
  | ior =>
    simp only [okI2, beq_iff_eq] at hok
    subst hok
    unfold wst at h
    dsimp only at h
    split at h
    next => exact R_ior hdec (hc _ _ _ _ h)
    next => exact h.elim
  | ixor =>
    simp only [okI2, beq_iff_eq] at hok
    subst hok
    unfold wst at h
    dsimp only at h
    split at h
    next => exact R_ixor hdec (hc _ _ _ _ h)
    next => exact h.elim
  | ishl =>
    simp only [okI2, beq_iff_eq] at hok
    subst hok
    unfold wst at h
    dsimp only at h
    split at h
    next => exact R_ishl hdec (hc _ _ _ _ h)
    next => exact h.elim
  | irem =>
    simp only [okI2, beq_iff_eq] at hok
    subst hok
    unfold wst at h
    dsimp only at h
    split at h
    next => exact R_irem hdec h.1 (hc _ _ _ _ h.2)
    next => exact h.elim
  | dup =>
    simp only [okI2, beq_iff_eq] at hok
    subst hok
    unfold wst at h
    dsimp only at h
    split at h
    next => exact R_dup hdec (hc _ _ _ _ h)
    next => exact h.elim
  | dup2 =>
    simp only [okI2, beq_iff_eq] at hok
    subst hok
    unfold wst at h
    dsimp only at h
    split at h
    next => exact R_dup2 hdec (hc _ _ _ _ h)
    next => exact h.elim
  | pop =>
    simp only [okI2, beq_iff_eq] at hok
    subst hok
    unfold wst at h
    dsimp only at h
    split at h
    next => exact R_pop hdec (hc _ _ _ _ h)
    next => exact h.elim
  | goto off =>
    simp only [okI2, Bool.and_eq_true, beq_iff_eq, decide_eq_true_eq] at hok
    obtain ⟨rfl, h1⟩ := hok
    exact R_goto hdec h1 (hc _ _ _ _ h)
  | aconst_null =>
    simp only [okI2, beq_iff_eq] at hok
    subst hok
    exact R_null hdec (hc _ _ _ _ h)
  | ifnull off =>
    simp only [okI2, Bool.and_eq_true, beq_iff_eq, decide_eq_true_eq] at hok
    obtain ⟨rfl, h1⟩ := hok
    unfold wst at h
    dsimp only at h
    split at h
    next => exact R_ifnull hdec h1 (hc _ _ _ _ h)
    next => exact R_ifnull hdec h1 (hc _ _ _ _ h)
    next => exact h.elim
  | ifnonnull off =>
    simp only [okI2, Bool.and_eq_true, beq_iff_eq, decide_eq_true_eq] at hok
    obtain ⟨rfl, h1⟩ := hok
    unfold wst at h
    dsimp only at h
    split at h
    next => exact R_ifnonnull hdec h1 (hc _ _ _ _ h)
    next => exact R_ifnonnull hdec h1 (hc _ _ _ _ h)
    next => exact h.elim
  | if_icmp cnd off =>
    simp only [okI2, Bool.and_eq_true, beq_iff_eq, decide_eq_true_eq] at hok
    obtain ⟨rfl, h1⟩ := hok
    unfold wst at h
    dsimp only at h
    split at h
    next => exact R_icmp hdec h1 (fun q => hc _ _ _ _ (h.1 q)) (fun q => hc _ _ _ _ (h.2 q))
    next => exact h.elim
  | ifCond cnd off =>
    simp only [okI2, Bool.and_eq_true, beq_iff_eq, decide_eq_true_eq] at hok
    obtain ⟨rfl, h1⟩ := hok
    unfold wst at h
    dsimp only at h
    split at h
    next => exact R_if hdec h1 (fun q => hc _ _ _ _ (h.1 q)) (fun q => hc _ _ _ _ (h.2 q))
    next => exact h.elim
  | tableswitch df lo hi offs =>
    simp only [okI2, Bool.and_eq_true, decide_eq_true_eq] at hok
    obtain ⟨h1, h2⟩ := hok
    unfold wst at h
    dsimp only at h
    split at h
    next x r =>
      refine R_table hdec h1 (fun o ho => by simpa using List.all_eq_true.mp h2 o ho) ?_
      have key : ∀ (os : List Int) (l0 : Int), swT (fun o => ((pc : Int) + o).toNat) (fun t => c t L r I) x l0 os df → swT (fun o => ((pc : Int) + o).toNat) (fun t => R k t L r I Q) x l0 os df := by
        intro os
        induction os with
        | nil => intro l0 h; exact hc _ _ _ _ h
        | cons o os ih => intro l0 h; exact ⟨fun q => hc _ _ _ _ (h.1 q), fun q => ih _ (h.2 q)⟩
      exact key _ _ h
    next => exact h.elim
  | lookupswitch df ps =>
    simp only [okI2, Bool.and_eq_true] at hok
    obtain ⟨h1, h2⟩ := hok
    unfold wst at h
    dsimp only at h
    split at h
    next x r =>
      refine R_lookup hdec h1 (fun o ho => by simpa using List.all_eq_true.mp h2 o ho) ?_
      have key : ∀ (os : List (Int × Int)), swL (fun o => ((pc : Int) + o).toNat) (fun t => c t L r I) x os df → swL (fun o => ((pc : Int) + o).toNat) (fun t => R k t L r I Q) x os df := by
        intro os
        induction os with
        | nil => intro h; exact hc _ _ _ _ h
        | cons o os ih => intro h; exact ⟨fun q => hc _ _ _ _ (h.1 q), fun q => ih (h.2 q)⟩
      exact key _ h
    next => exact h.elim
  | getfield idx =>
    simp only [okI2, Bool.and_eq_true, beq_iff_eq] at hok
    obtain ⟨rfl, h1⟩ := hok
    obtain ⟨pl, h1⟩ := ftab_any h1
    unfold wst at h
    dsimp only at h
    split at h
    next id r =>
      split at h
      next hb =>
        simp only [Bool.and_eq_true] at hb
        have e1 := Nat.eq_of_beq_eq_true hb.1
        rw [← e1] at h1
        exact R_getfield hdec h1 (Nat.le_of_ble_eq_true hb.2) (hc _ _ _ _ h)
      next => exact h.elim
    next => exact h.elim
  | putfield idx =>
    simp only [okI2, Bool.and_eq_true, beq_iff_eq] at hok
    obtain ⟨⟨⟨rfl, h1⟩, h2⟩, h3⟩ := hok
    obtain ⟨pl, h1⟩ := ftab_any h1
    unfold wst at h
    dsimp only at h
    split at h
    next v id r =>
      split at h
      next hb =>
        simp only [Bool.and_eq_true] at hb
        have e1 := Nat.eq_of_beq_eq_true hb.1
        rw [← e1] at h1 h2 h3
        have hsl : b < sz id := Nat.le_of_ble_eq_true hb.2
        have hfin : ∀ r, vwCl[kd id]? = some r → (r.2.1 b).2.2.2 = false := by
          intro r hr
          rw [hr] at h2
          simpa using h2
        split at h
        next hrf =>
          split at h
          next =>
            simp only [decide_eq_true_eq] at h3
            exact R_putfield hdec h1 hsl hrf hfin (Or.inl h3) (hc _ _ _ _ h)
          next =>
            simp only [decide_eq_true_eq] at h3
            exact R_putfield hdec h1 hsl hrf hfin (Or.inr ⟨h3, h.1⟩) (hc _ _ _ _ h.2)
          next => exact h.elim
        next => exact h.elim
      next => exact h.elim
    next => exact h.elim
  | iaload =>
    simp only [okI2, beq_iff_eq] at hok
    subst hok
    unfold wst at h
    dsimp only at h
    split at h
    next i id r =>
      split at h
      next hb => exact R_iaload hdec (Nat.eq_of_beq_eq_true hb) h.1.1 h.1.2 (hc _ _ _ _ h.2)
      next => exact h.elim
    next => exact h.elim
  | baload =>
    simp only [okI2, beq_iff_eq] at hok
    subst hok
    unfold wst at h
    dsimp only at h
    split at h
    next i id r =>
      split at h
      next hb => exact R_baload hdec (Nat.eq_of_beq_eq_true hb) h.1.1 h.1.2 (hc _ _ _ _ h.2)
      next => exact h.elim
    next => exact h.elim
  | iastore =>
    simp only [okI2, beq_iff_eq] at hok
    subst hok
    unfold wst at h
    dsimp only at h
    split at h
    next v i id r =>
      split at h
      next hb => exact R_iastore hdec (Nat.eq_of_beq_eq_true hb) h.1.1 h.1.2 (hc _ _ _ _ h.2)
      next => exact h.elim
    next => exact h.elim
  | bastore =>
    simp only [okI2, beq_iff_eq] at hok
    subst hok
    unfold wst at h
    dsimp only at h
    split at h
    next v i id r =>
      split at h
      next hb => exact R_bastore hdec (Nat.eq_of_beq_eq_true hb) h.1.1 h.1.2 h.2.1 (hc _ _ _ _ h.2.2)
      next => exact h.elim
    next => exact h.elim
  | arraylength =>
    simp only [okI2, beq_iff_eq] at hok
    subst hok
    unfold wst at h
    dsimp only at h
    split at h
    next id r =>
      split at h
      next hb => exact R_alen hdec (Or.inl (Nat.eq_of_beq_eq_true hb)) (hc _ _ _ _ h)
      next => exact h.elim
    next => exact h.elim
  | ireturn =>
    simp only [okI2, Bool.and_eq_true, beq_iff_eq] at hok
    obtain ⟨rfl, h1⟩ := hok
    unfold wst at h
    dsimp only at h
    split at h
    next v =>
      split at h
      next =>
        simp only [decide_eq_true_eq] at h1
        exact R_ireturn hdec h1 h
      next =>
        simp only [decide_eq_true_eq] at h1
        exact R_breturn hdec h1 h.1 h.2
      next => exact h.elim
    next => exact h.elim
  | return_ =>
    simp only [okI2, Bool.and_eq_true, beq_iff_eq, decide_eq_true_eq] at hok
    obtain ⟨rfl, h1⟩ := hok
    unfold wst at h
    dsimp only at h
    split at h
    next => exact R_return hdec h1 h
    next => exact h.elim
  | invokestatic idx =>
    simp only [okI2, Bool.and_eq_true, beq_iff_eq] at hok
    obtain ⟨rfl, h1⟩ := hok
    unfold wst at h
    dsimp only at h
    cases h2 : Nat.beq a 1000 with
    | true =>
      rw [h2] at h
      dsimp only at h
      have e1 := Nat.eq_of_beq_eq_true h2
      subst e1
      simp only [show Nat.ble 1000 1000 = true from rfl, Bool.and_eq_true, decide_eq_true_eq] at h1
      obtain ⟨⟨g1, g2⟩, g3⟩ := h1
      obtain ⟨pl, g1⟩ := mtab_any g1
      split at h
      next b a r =>
        split at h
        next h8 => exact R_min hdec g1 ⟨g2, g3⟩ (Nat.le_of_ble_eq_true h8) (hc _ _ _ _ h)
        next => exact h.elim
      next => exact h.elim
    | false =>
      rw [h2] at h
      cases h3 : Nat.beq a 1001 with
      | true =>
        rw [h3] at h
        dsimp only at h
        have e1 := Nat.eq_of_beq_eq_true h3
        subst e1
        simp only [show Nat.ble 1000 1001 = true from rfl, Bool.and_eq_true, decide_eq_true_eq] at h1
        obtain ⟨⟨g1, g2⟩, g3⟩ := h1
        obtain ⟨pl, g1⟩ := mtab_any g1
        split at h
        next b a r =>
          split at h
          next h8 => exact R_max hdec g1 ⟨g2, g3⟩ (Nat.le_of_ble_eq_true h8) (hc _ _ _ _ h)
          next => exact h.elim
        next => exact h.elim
      | false =>
        rw [h3] at h
        dsimp only at h
        cases hbl : Nat.ble 1000 a with
        | true =>
          rw [hbl] at h1
          simp only [Bool.and_eq_true, decide_eq_true_eq] at h1
          obtain ⟨⟨g1, g2⟩, g3⟩ := h1
          obtain ⟨pl, g1⟩ := mtab_any g1
          have hall : ∀ q ∈ mtab, q.2.2.1 = 1000 ∨ q.2.2.1 = 1001 := by decide +kernel
          rcases hall _ g1 with e1 | e1
          · rw [show a = 1000 from e1] at h2; cases h2
          · rw [show a = 1001 from e1] at h3; cases h3
        | false =>
          rw [hbl] at h1
          simp only [Bool.and_eq_true, decide_eq_true_eq] at h1
          obtain ⟨⟨⟨⟨g1, g2⟩, g3⟩, g4⟩, g5⟩ := h1
          exact wcall_static hp hc hdec (ctab_any g1) g2 g3 g4 (rooms_of rfl g5) h
  | invokevirtual idx =>
    simp only [okI2, Bool.and_eq_true, beq_iff_eq, decide_eq_true_eq, Bool.not_eq_true'] at hok
    obtain ⟨⟨⟨⟨⟨⟨rfl, g1⟩, g2⟩, g3⟩, g4⟩, g5⟩, g6⟩ := hok
    unfold wst at h
    dsimp only at h
    split at h
    next id tl rs hpop =>
      split at h
      next hb =>
        have e1 := Nat.eq_of_beq_eq_true hb
        rw [← e1] at g6
        refine wcall_virtual hp hc hdec (ctab_any0 g1) g2 g3 g4 (rooms_of rfl g5) hpop ?_ h
        cases hv : vwCl[kd id]? with
        | none => rw [hv] at g6; cases g6
        | some r => rw [hv] at g6; exact ⟨r, rfl, by simpa using g6⟩
      next => exact h.elim
    next => exact h.elim
  | _ => exact False.elim h
end WS
theorem wseg_sound {prim : Prim} (hp : PrimOk prim) {k : Nat} {mt : List Ent} {cut : List (Nat × List Nat)} {Q : Post} (hk : mt.all (okEnt (mdOf k)) = true) :
    ∀ (g : Nat) (fst : Bool) (pc : Nat) (L : List (Nat × AV)) (st : List AV) (I : Mem), wseg prim k mt cut Q g fst pc L st I → R k pc L st I Q := by
  intro g
  induction g with
  | zero => intro fst pc L st I h; exact h
  | succ g ih =>
    intro fst pc L st I h
    unfold wseg at h
    split at h
    next live _ => exact R.sub h (fun q hq => lkeep_mem hq)
    next =>
      split at h
      next => exact h.elim
      next e he =>
        obtain ⟨e1, e2⟩ := findE_spec he
        rw [← e2]
        exact wst_sound hp (ih false) (List.all_eq_true.mp hk e e1) h
def noPrim : Prim := fun _ _ _ => none
theorem noPrim_ok : PrimOk noPrim := fun _ _ _ _ h => by cases h
