/-! at, put, momentAt: rows that are read and written through a look at the index. -/
theorem dec_of {k : Nat} {mt : List Ent} (h : mt.all (okEnt (mdOf k)) = true) {pc : Nat} {e : Ent} (he : findE mt pc = some e) : decode (mC k) pc = .ok (e.2.1, e.2.2.1) := by
  obtain ⟨h1, h2⟩ := findE_spec he
  have h3 := List.all_eq_true.mp h e h1
  unfold okEnt at h3
  simp only [Bool.and_eq_true, decide_eq_true_eq] at h3
  rw [← h2]
  exact h3.1
def rd (I : Mem) (id : Nat) (i : Int) : Int := if 0 ≤ i ∧ i < (sz id : Int) then I id i.toNat else 0
def wr (I : Mem) (id : Nat) (i v : Int) : Mem := if 0 ≤ i ∧ i < (sz id : Int) then upd2 I id i.toNat v else I
theorem R_at {id : Nat} {i : Int} {I : Mem} {Q : Post} (hk : kd id = 20) (h : Q (some (.inl (rd I id i))) I) : R 103 0 [(0, .inr (some id)), (1, .inl i)] [] I Q := by
  have z : R 103 16 [(0, .inr (some id)), (1, .inl i)] [] I (fun r I' => r = some (.inl 0) ∧ I' = I) :=
    R_iconst (dec_of ok_103 (pc := 16) rfl) inR_0 (R_ireturn (dec_of ok_103 (pc := 17) rfl) rfl ⟨rfl, rfl⟩)
  refine R_iload_n (x := i) (dec_of ok_103 (pc := 0) rfl) rfl (R_if (tgt := 16) (dec_of ok_103 (pc := 1) rfl) rfl (fun hc => ?_) (fun hc => ?_))
  · have hc : i < 0 := hc
    refine z.mono (fun r I' hr => ?_)
    rw [hr.1, hr.2]
    unfold rd at h
    rw [if_neg (by omega)] at h
    exact h
  · have hc : ¬ i < 0 := hc
    refine R_iload_n (x := i) (dec_of ok_103 (pc := 4) rfl) rfl (R_aload_n (r := some id) (dec_of ok_103 (pc := 5) rfl) rfl (R_alen (dec_of ok_103 (pc := 6) rfl) (Or.inl hk) (R_icmp (tgt := 16) (dec_of ok_103 (pc := 7) rfl) rfl (fun hd => ?_) (fun hd => ?_))))
    · have hd : (sz id : Int) ≤ i := hd
      refine z.mono (fun r I' hr => ?_)
      rw [hr.1, hr.2]
      unfold rd at h
      rw [if_neg (by omega)] at h
      exact h
    · have hd : ¬ (sz id : Int) ≤ i := hd
      refine R_aload_n (r := some id) (dec_of ok_103 (pc := 10) rfl) rfl (R_iload_n (x := i) (dec_of ok_103 (pc := 11) rfl) rfl (R_iaload (dec_of ok_103 (pc := 12) rfl) hk (by omega) (by omega) (R_goto (tgt := 17) (dec_of ok_103 (pc := 13) rfl) rfl (R_ireturn (dec_of ok_103 (pc := 17) rfl) rfl ?_))))
      unfold rd at h
      rw [if_pos ⟨by omega, by omega⟩] at h
      exact h
theorem R_put {id : Nat} {i v : Int} {I : Mem} {Q : Post} (hk : kd id = 20) (h : Q none (wr I id i v)) : R 104 0 [(0, .inr (some id)), (1, .inl i), (2, .inl v)] [] I Q := by
  have z : ∀ I, R 104 14 [(0, .inr (some id)), (1, .inl i), (2, .inl v)] [] I (fun r I' => r = none ∧ I' = I) := fun I =>
    R_return (dec_of ok_104 (pc := 14) rfl) rfl ⟨rfl, rfl⟩
  refine R_iload_n (x := i) (dec_of ok_104 (pc := 0) rfl) rfl (R_if (tgt := 14) (dec_of ok_104 (pc := 1) rfl) rfl (fun hc => ?_) (fun hc => ?_))
  · have hc : i < 0 := hc
    refine (z I).mono (fun r I' hr => ?_)
    rw [hr.1, hr.2]
    unfold wr at h
    rw [if_neg (by omega)] at h
    exact h
  · have hc : ¬ i < 0 := hc
    refine R_iload_n (x := i) (dec_of ok_104 (pc := 4) rfl) rfl (R_aload_n (r := some id) (dec_of ok_104 (pc := 5) rfl) rfl (R_alen (dec_of ok_104 (pc := 6) rfl) (Or.inl hk) (R_icmp (tgt := 14) (dec_of ok_104 (pc := 7) rfl) rfl (fun hd => ?_) (fun hd => ?_))))
    · have hd : (sz id : Int) ≤ i := hd
      refine (z I).mono (fun r I' hr => ?_)
      rw [hr.1, hr.2]
      unfold wr at h
      rw [if_neg (by omega)] at h
      exact h
    · have hd : ¬ (sz id : Int) ≤ i := hd
      refine R_aload_n (r := some id) (dec_of ok_104 (pc := 10) rfl) rfl (R_iload_n (x := i) (dec_of ok_104 (pc := 11) rfl) rfl (R_iload_n (x := v) (dec_of ok_104 (pc := 12) rfl) rfl (R_iastore (dec_of ok_104 (pc := 13) rfl) hk (by omega) (by omega) ((z _).mono (fun r I' hr => ?_)))))
      rw [hr.1, hr.2]
      unfold wr at h
      rw [if_pos ⟨by omega, by omega⟩] at h
      exact h
theorem R_momentAt {id : Nat} {i : Int} {I : Mem} {Q : Post} (hk : kd id = 22) (h : Q (some (.inr (if 0 ≤ i ∧ i < (sz id : Int) then rf id i.toNat else none))) I) : R 105 0 [(0, .inr (some id)), (1, .inl i)] [] I Q := by
  have z : R 105 16 [(0, .inr (some id)), (1, .inl i)] [] I (fun r I' => r = some (.inr none) ∧ I' = I) :=
    R_null (dec_of ok_105 (pc := 16) rfl) (R_areturn (dec_of ok_105 (pc := 17) rfl) rfl ⟨rfl, rfl⟩)
  refine R_iload_n (x := i) (dec_of ok_105 (pc := 0) rfl) rfl (R_if (tgt := 16) (dec_of ok_105 (pc := 1) rfl) rfl (fun hc => ?_) (fun hc => ?_))
  · have hc : i < 0 := hc
    refine z.mono (fun r I' hr => ?_)
    rw [hr.1, hr.2]
    rw [if_neg (by omega)] at h
    exact h
  · have hc : ¬ i < 0 := hc
    refine R_iload_n (x := i) (dec_of ok_105 (pc := 4) rfl) rfl (R_aload_n (r := some id) (dec_of ok_105 (pc := 5) rfl) rfl (R_alen (dec_of ok_105 (pc := 6) rfl) (Or.inr (Or.inr hk)) (R_icmp (tgt := 16) (dec_of ok_105 (pc := 7) rfl) rfl (fun hd => ?_) (fun hd => ?_))))
    · have hd : (sz id : Int) ≤ i := hd
      refine z.mono (fun r I' hr => ?_)
      rw [hr.1, hr.2]
      rw [if_neg (by omega)] at h
      exact h
    · have hd : ¬ (sz id : Int) ≤ i := hd
      refine R_aload_n (r := some id) (dec_of ok_105 (pc := 10) rfl) rfl (R_iload_n (x := i) (dec_of ok_105 (pc := 11) rfl) rfl (R_aaload (dec_of ok_105 (pc := 12) rfl) hk (by omega) (by omega) (R_goto (tgt := 17) (dec_of ok_105 (pc := 13) rfl) rfl (R_areturn (dec_of ok_105 (pc := 17) rfl) rfl ?_))))
      rw [if_pos ⟨by omega, by omega⟩] at h
      exact h
def pAtPut (k : Nat) (as : List AV) (I : Mem) : Option ((Prop → Prop) × Option AV × Mem) :=
  match Nat.beq k 103 with
  | true => (match as with
    | [.inr (some id), .inl i] => (match Nat.beq (kd id) 20 with
      | true => some (fun X => X, some (.inl (rd I id i)), I)
      | false => none)
    | _ => none)
  | false => match Nat.beq k 104 with
    | true => (match as with
      | [.inr (some id), .inl i, .inl v] => (match Nat.beq (kd id) 20 with
        | true => some (fun X => X, none, wr I id i v)
        | false => none)
      | _ => none)
    | false => none
theorem pAtPut_ok : PrimOk pAtPut := by
  intro k as I t h X hX
  unfold pAtPut at h
  cases h1 : Nat.beq k 103 with
  | true =>
    rw [h1] at h
    have e1 := Nat.eq_of_beq_eq_true h1
    subst e1
    dsimp only at h
    split at h
    next id i =>
      split at h
      next hb => cases h; exact ⟨hX, R_at (Nat.eq_of_beq_eq_true hb) ⟨rfl, rfl⟩⟩
      next => cases h
    next => cases h
  | false =>
    rw [h1] at h
    dsimp only at h
    cases h2 : Nat.beq k 104 with
    | true =>
      rw [h2] at h
      have e1 := Nat.eq_of_beq_eq_true h2
      subst e1
      dsimp only at h
      split at h
      next id i v =>
        split at h
        next hb => cases h; exact ⟨hX, R_put (Nat.eq_of_beq_eq_true hb) ⟨rfl, rfl⟩⟩
        next => cases h
      next => cases h
    | false => rw [h2] at h; cases h
