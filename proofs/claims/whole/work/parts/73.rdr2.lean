/-! The class's reader: one letter. -/
theorem val_nam {c : Int} (h : isVal c = true) : nam c = true := by unfold nam; rw [h]; rfl
theorem fun_nam {c : Int} (h : isFun c = true) : nam c = true := by unfold nam; rw [h]; simp
theorem ins_self (G : KS) (c : Int) : ins G c c = true := by unfold ins; simp
theorem ins_mono {G : KS} {a c : Int} (h : G c = true) : ins G a c = true := by unfold ins; rw [h]; simp
theorem ins_cases {G : KS} {a c : Int} (h : ins G a c = true) : c = a ∨ G c = true := by unfold ins at h; simpa using h
theorem nob2i {b : Bool} : ¬ b2i b = 0 ↔ b = true := by cases b <;> simp [b2i]
section Takes
variable {I : Mem} {Q : Post} {T : KS} {n : Nat} {c : Int}
theorem R_first {f : Int} {Gs : List KS} (h : CR I (0, f, Gs) T n) (hg : Gs ≠ []) (hn : n < 60) (h0 : rstep (0, f, Gs) T c = none → ∀ I', FrR I I' → Q (some (.inl 0)) I') (h1 : ∀ u, rstep (0, f, Gs) T c = some u → ∀ I', FrR I I' → CR I' u.1 u.2 (n + 1) → Q (some (.inl 1)) I') :
    R 42 0 [(0, .inr (some 2)), (1, .inl c)] [] I Q := by
  obtain ⟨x, t, st, e7, e8, e5, eR, eT, en, eG, ⟨e, -⟩ | ⟨e6, -, eD, -⟩⟩ := h
  · exact absurd e hg
  have eD : Gs = kb x :: dlI st x := eD
  subst eD
  have eG' : ∀ G ∈ dlI st x, ∀ c, G c = true → T c = true := fun G hG => eG G (List.mem_cons_of_mem _ hG)
  have eGx : ∀ c, kb x c = true → T c = true := eG (kb x) List.mem_cons_self
  rw [rstep_0] at h0 h1
  -- a leaf
  have leaf : (isDig c = true ∨ isInp c = true ∨ (isVal c = true ∧ kb x c = true)) → R 50 0 [(0, .inr (some 2))] [] I (fun r1 I1 => r1 = none ∧ (RetB 1 I1 Q)) := by
    intro hl
    have ep : pout 0 f (kb x) c = some (0, 0, []) := by rw [pout_0, if_pos hl]
    rw [ep] at h1
    refine t50_0 I (R_end st 0 x I (by omega) e7 e5 eR (fun I' x' st' f1 f2 f3 f4 f5 f6 f7 => ⟨rfl, Or.inr rfl, h1 _ rfl I' f1 ⟨x', t, st', f3, by rw [f2]; exact e8, f4, f5, eT, by omega, eG', ?_⟩⟩))
    rcases f7 with ⟨g1, g2, g3⟩ | ⟨g1, g2⟩
    · exact Or.inl ⟨g1, g2, g3⟩
    · exact Or.inr ⟨g1, by show (0 : Nat) ≤ 4; omega, g2, fun z => absurd z (by show ¬ ((0 : Nat) = 3); omega)⟩
  have keepW : ∀ m : Nat, m ≤ 4 → m ≠ 3 → CR (upd2 I 2 6 (m : Int)) (m, 0, kb x :: dlI st x) T (n + 1) ∧ FrR I (upd2 I 2 6 (m : Int)) := by
    intro m hm hm3
    have k2 : ∀ r, r ≠ 6 → upd2 I 2 6 (m : Int) 2 r = I 2 r := fun r hr => by rw [upd2_at, if_neg (fun z => hr z.2)]
    refine ⟨⟨x, t, st, by rw [k2 7 (by decide)]; exact e7, by rw [k2 8 (by decide)]; exact e8, by rw [k2 5 (by decide)]; exact e5, eR.keep (fun id hid j _ => by rw [upd2_id (by omega)]), eT, by omega, eG, Or.inr ⟨by rw [upd2_at, if_pos ⟨rfl, rfl⟩], hm, rfl, fun z => absurd z hm3⟩⟩, fun id a _ _ _ => upd2_id a, k2 1 (by decide)⟩
  have body : ¬ (isDig c = true ∨ isInp c = true ∨ (isVal c = true ∧ kb x c = true)) →
      ((¬ (b2i (isOpr c)) = 0 → (R 49 0 [(0, .inr (some 2)), (1, .inl ((pts c : Nat) : Int)), (2, .inl 0), (3, .inl 0)] [] I (fun r3 I3 => r3 = none ∧ (RetB 1 I3 Q)))) ∧
      (¬ (¬ (b2i (isOpr c)) = 0) → ((¬ c = 63 → ((¬ c = 58 → ((¬ c = 64 → ((¬ c = 33 → (RetB 0 I Q)) ∧ (¬ (¬ c = 33) → (let J4 := upd2 I 2 6 4; RetB 1 J4 Q)))) ∧ (¬ (¬ c = 64) → (let J5 := upd2 I 2 6 2; RetB 1 J5 Q)))) ∧ (¬ (¬ c = 58) → (let J6 := upd2 I 2 6 1; RetB 1 J6 Q)))) ∧
        (¬ (¬ c = 63) → (R 49 0 [(0, .inr (some 2)), (1, .inl ((pts c : Nat) : Int)), (2, .inl 0), (3, .inl 0)] [] I (fun r7 I7 => r7 = none ∧ (RetB 1 I7 Q))))))) := by
    intro hl
    have opn : ∀ (m : Nat) (Ss : List KS), pts c = m + 1 → m ≤ 2 → pout 0 f (kb x) c = some (0, 0, Ss) → Ss ++ dlI st x = kb x :: dlI ((m, 0, 0) :: st) x → (∀ G ∈ Ss, G = kb x) → R 49 0 [(0, .inr (some 2)), (1, .inl ((pts c : Nat) : Int)), (2, .inl 0), (3, .inl 0)] [] I (fun r3 I3 => r3 = none ∧ (RetB 1 I3 Q)) := by
      intro m Ss hp hm ep hS hG
      rw [ep] at h1
      refine R_open (a := 0) (b := 0) e7 e5 eR (by omega) hm (by rw [hp]) rfl rfl (fun I' f1 f2 f3 f4 f5 f6 => ⟨rfl, Or.inr rfl, h1 _ rfl I' f1 ⟨x, t, (m, 0, 0) :: st, by rw [f3, or_0], by rw [f2]; exact e8, f4, f5, eT, by simp only [List.length_cons]; omega, fun G hG' => ?_, Or.inr ⟨f6, by show (0 : Nat) ≤ 4; omega, hS, fun z => absurd z (by show ¬ ((0 : Nat) = 3); omega)⟩⟩⟩)
      rcases List.mem_append.mp hG' with hG' | hG'
      · rw [hG G hG']; exact eGx
      · exact eG' G hG'
    refine ⟨fun q => ?_, fun q => ⟨fun q2 => ⟨fun q3 => ⟨fun q4 => ⟨fun q5 => ?_, fun q5 => ?_⟩, fun q4 => ?_⟩, fun q3 => ?_⟩, fun q2 => ?_⟩⟩
    · have q := nob2i.mp q
      refine opn 1 [kb x, kb x] (by simp [pts, q]) (by omega) (by rw [pout_0, if_neg hl, if_pos q]) ?_ (fun G hG => by simpa using hG)
      simp only [dlI, dE, out_0, out_00, or_0, List.cons_append, List.nil_append]
    · have q : ¬ isOpr c = true := fun z => q (nob2i.mpr z)
      refine ⟨Or.inl rfl, h0 ?_ I FrR.rfl'⟩
      rw [pout_0, if_neg hl, if_neg q, if_neg q2, if_neg q3, if_neg q4, if_neg q5]
    · have q : ¬ isOpr c = true := fun z => q (nob2i.mpr z)
      have ep : pout 0 f (kb x) c = some (4, 0, [kb x]) := by rw [pout_0, if_neg hl, if_neg q, if_neg q2, if_neg q3, if_neg q4, if_pos (by simpa using q5)]
      rw [ep] at h1
      exact ⟨Or.inr rfl, h1 _ rfl _ (keepW 4 (by omega) (by omega)).2 (keepW 4 (by omega) (by omega)).1⟩
    · have q : ¬ isOpr c = true := fun z => q (nob2i.mpr z)
      have ep : pout 0 f (kb x) c = some (2, 0, [kb x]) := by rw [pout_0, if_neg hl, if_neg q, if_neg q2, if_neg q3, if_pos (by simpa using q4)]
      rw [ep] at h1
      exact ⟨Or.inr rfl, h1 _ rfl _ (keepW 2 (by omega) (by omega)).2 (keepW 2 (by omega) (by omega)).1⟩
    · have q : ¬ isOpr c = true := fun z => q (nob2i.mpr z)
      have ep : pout 0 f (kb x) c = some (1, 0, [kb x]) := by rw [pout_0, if_neg hl, if_neg q, if_neg q2, if_pos (by simpa using q3)]
      rw [ep] at h1
      exact ⟨Or.inr rfl, h1 _ rfl _ (keepW 1 (by omega) (by omega)).2 (keepW 1 (by omega) (by omega)).1⟩
    · have q : ¬ isOpr c = true := fun z => q (nob2i.mpr z)
      have q2 : c = 63 := by simpa using q2
      refine opn 2 [kb x, kb x, kb x] (by rw [q2]; rfl) (by omega) (by rw [pout_0, if_neg hl, if_neg q, if_pos q2]) ?_ (fun G hG => by simpa using hG)
      simp only [dlI, dE, out_0, out_00, or_0, List.cons_append, List.nil_append]
  refine t42_0 I _ ⟨fun q => leaf (Or.inl (nob2i.mp q)), fun q => ⟨fun q2 => leaf (Or.inr (Or.inl (nob2i.mp q2))), fun q2 => ⟨fun q3 => body ?_, fun q3 => ?_⟩⟩⟩
  · rintro (z | z | z)
    · exact q (nob2i.mpr z)
    · exact q2 (nob2i.mpr z)
    · rw [b2i_0, z.1] at q3; cases q3
  · have hv := nob2i.mp q3
    rw [e7]
    have e := and_bit (x := x) (val_nam hv)
    refine ⟨fun q4 => body ?_, fun q4 => leaf (Or.inr (Or.inr ⟨hv, ?_⟩))⟩
    · have hk : kb x c = false := by rw [b2i_0] at q4; exact e.mp (by simpa using q4)
      rintro (z | z | z)
      · exact q (nob2i.mpr z)
      · exact q2 (nob2i.mpr z)
      · rw [hk] at z; cases z.2
    · have q4 := nob2i.mp q4
      cases hk : kb x c with
      | true => rfl
      | false => rw [e.mpr hk] at q4; simp at q4
theorem R_bound {f : Int} {Gs : List KS} (h : CR I (1, f, Gs) T n) (hg : Gs ≠ []) (hn : n < 60) (h0 : rstep (1, f, Gs) T c = none → ∀ I', FrR I I' → Q (some (.inl 0)) I') (h1 : ∀ u, rstep (1, f, Gs) T c = some u → ∀ I', FrR I I' → CR I' u.1 u.2 (n + 1) → Q (some (.inl 1)) I') :
    R 43 0 [(0, .inr (some 2)), (1, .inl c)] [] I Q := by
  obtain ⟨x, t, st, e7, e8, e5, eR, eT, en, eG, ⟨e, -⟩ | ⟨e6, -, eD, -⟩⟩ := h
  · exact absurd e hg
  have eD : Gs = kb x :: dlI st x := eD
  subst eD
  have eG' : ∀ G ∈ dlI st x, ∀ c, G c = true → T c = true := fun G hG => eG G (List.mem_cons_of_mem _ hG)
  have eGx : ∀ c, kb x c = true → T c = true := eG (kb x) List.mem_cons_self
  rw [rstep_m (Or.inl rfl)] at h0 h1
  refine t43_0 I _ ⟨fun q => ⟨Or.inl rfl, h0 ?_ I FrR.rfl'⟩, fun q => ?_⟩
  · rw [b2i_0] at q
    by_cases ht : T c = true
    · rw [if_pos ht]
    · rw [if_neg ht, pout_1, if_neg (by rw [q]; decide)]
  · have hv := nob2i.mp q
    have hc := val_nam hv
    have fr : FrR I (upd2 I 2 8 (t ||| bt c).toInt) := ⟨fun id a _ _ _ => upd2_id a, by simp [upd2]⟩
    refine R_introduces hc e8 (fun ht => ⟨_, rfl, fun z => absurd rfl z, fun _ => ⟨Or.inl rfl, h0 ?_ _ fr⟩⟩) (fun ht => ⟨_, rfl, fun _ => ?_, fun z => absurd (by decide) z⟩)
    · rw [eT] at ht; rw [if_pos ht]
    · rw [eT] at ht
      have ep : pout 1 f (kb x) c = some (0, 0, [kb x, ins (kb x) c]) := by rw [pout_1, if_pos hv]
      rw [if_neg (by rw [ht]; decide), ep] at h1
      have hkx : kb x c = false := by
        cases hk : kb x c with
        | false => rfl
        | true => rw [eGx c hk] at ht; cases ht
      have hfree := bit_free hc hkx
      have u2 : ∀ r, r ≠ 8 → upd2 I 2 8 (t ||| bt c).toInt 2 r = I 2 r := fun r hr => by rw [upd2_at, if_neg (fun z => hr z.2)]
      refine R_open (x := x) (a := 0) (b := bt c) (m := 1) (by rw [u2 7 (by decide)]; exact e7) (by rw [u2 5 (by decide)]; exact e5) (eR.keep (fun id hid j _ => by rw [upd2_id (by omega)])) (by omega) (by omega) rfl rfl (bitc_bt hc)
        (fun I' f1 f2 f3 f4 f5 f6 => ⟨rfl, Or.inr rfl, h1 _ rfl I' (fr.trans f1) ⟨x, t ||| bt c, (1, 0, bt c) :: st, by rw [f3, or_0], by rw [f2]; simp [upd2], f4, f5, by rw [kb_or hc, eT], by simp only [List.length_cons]; omega, fun G hG => ?_, Or.inr ⟨f6, by show (0 : Nat) ≤ 4; omega, ?_, fun z => absurd z (by show ¬ ((0 : Nat) = 3); omega)⟩⟩⟩)
      · intro d hd
        have hG : G ∈ kb x :: ins (kb x) c :: dlI st x := hG
        rcases List.mem_cons.mp hG with rfl | hG
        · exact ins_mono (eGx d hd)
        · rcases List.mem_cons.mp hG with rfl | hG
          · rcases ins_cases hd with rfl | hd
            · exact ins_self _ _
            · exact ins_mono (eGx d hd)
          · exact ins_mono (eG' G hG d hd)
      · show [kb x, ins (kb x) c] ++ dlI st x = kb x :: dlI ((1, 0, bt c) :: st) x
        simp only [dlI, dE, out_00]
        rw [or_out hfree, kb_or hc]
        rfl
theorem R_defined {f : Int} {Gs : List KS} (h : CR I (2, f, Gs) T n) (hg : Gs ≠ []) (hn : n < 60) (h0 : rstep (2, f, Gs) T c = none → ∀ I', FrR I I' → Q (some (.inl 0)) I') (h1 : ∀ u, rstep (2, f, Gs) T c = some u → ∀ I', FrR I I' → CR I' u.1 u.2 (n + 1) → Q (some (.inl 1)) I') :
    R 44 0 [(0, .inr (some 2)), (1, .inl c)] [] I Q := by
  obtain ⟨x, t, st, e7, e8, e5, eR, eT, en, eG, ⟨e, -⟩ | ⟨e6, -, eD, -⟩⟩ := h
  · exact absurd e hg
  have eD : Gs = kb x :: dlI st x := eD
  subst eD
  have eGx : ∀ c, kb x c = true → T c = true := eG (kb x) List.mem_cons_self
  rw [rstep_m (Or.inr (Or.inl rfl))] at h0 h1
  refine t44_0 I _ ⟨fun q => ⟨Or.inl rfl, h0 ?_ I FrR.rfl'⟩, fun q => ?_⟩
  · rw [b2i_0] at q
    by_cases ht : T c = true
    · rw [if_pos ht]
    · rw [if_neg ht, pout_2, if_neg (by rw [q]; decide)]
  · have hv := nob2i.mp q
    have hc := fun_nam hv
    have fr : FrR I (upd2 I 2 8 (t ||| bt c).toInt) := ⟨fun id a _ _ _ => upd2_id a, by simp [upd2]⟩
    refine R_introduces hc e8 (fun ht => ⟨_, rfl, fun z => absurd rfl z, fun _ => ⟨Or.inl rfl, h0 ?_ _ fr⟩⟩) (fun ht => ⟨_, rfl, fun _ => ?_, fun z => absurd (by decide) z⟩)
    · rw [eT] at ht; rw [if_pos ht]
    · rw [eT] at ht
      have ep : pout 2 f (kb x) c = some (3, c, [kb x]) := by rw [pout_2, if_pos hv]
      rw [if_neg (by rw [ht]; decide), ep] at h1
      have hkx : kb x c = false := by
        cases hk : kb x c with
        | false => rfl
        | true => rw [eGx c hk] at ht; cases ht
      dsimp only
      generalize hJ : upd2 (upd2 (upd2 I 2 8 (t ||| bt c).toInt) 2 9 (bitc c)) 2 6 3 = J
      have u2 : ∀ r, r ≠ 8 → r ≠ 9 → r ≠ 6 → J 2 r = I 2 r := fun r h1 h2 h3 => by rw [← hJ]; simp [upd2, h1, h2, h3]
      have ui : ∀ id, id ≠ 2 → J id = I id := fun id h => by rw [← hJ, upd2_id h, upd2_id h, upd2_id h]
      refine ⟨Or.inr rfl, h1 _ rfl J ⟨fun id a _ _ _ => ui id a, u2 1 (by decide) (by decide) (by decide)⟩ ⟨x, t ||| bt c, st, by rw [u2 7 (by decide) (by decide) (by decide)]; exact e7, by rw [← hJ]; simp [upd2], by rw [u2 5 (by decide) (by decide) (by decide)]; exact e5, eR.keep (fun id hid j _ => by rw [ui id (by omega)]), by rw [kb_or hc, eT], by omega, fun G hG d hd => ins_mono (eG G hG d hd), Or.inr ⟨by rw [← hJ]; simp [upd2], by show (3 : Nat) ≤ 4; omega, rfl, fun _ => ⟨?_, hv, ins_self _ _, hkx⟩⟩⟩⟩
      rw [← bitc_bt hc, ← hJ]
      simp [upd2]
theorem R_parameter {f : Int} {Gs : List KS} (h : CR I (3, f, Gs) T n) (hg : Gs ≠ []) (hn : n < 60) (h0 : rstep (3, f, Gs) T c = none → ∀ I', FrR I I' → Q (some (.inl 0)) I') (h1 : ∀ u, rstep (3, f, Gs) T c = some u → ∀ I', FrR I I' → CR I' u.1 u.2 (n + 1) → Q (some (.inl 1)) I') :
    R 45 0 [(0, .inr (some 2)), (1, .inl c)] [] I Q := by
  obtain ⟨x, t, st, e7, e8, e5, eR, eT, en, eG, ⟨e, -⟩ | ⟨e6, -, eD, e3⟩⟩ := h
  · exact absurd e hg
  obtain ⟨e9, hf, hTf, hkf⟩ := e3 rfl
  have e9 : I 2 9 = (bt f).toInt := e9
  have hf : isFun f = true := hf
  have hTf : T f = true := hTf
  have hkf : kb x f = false := hkf
  have eD : Gs = kb x :: dlI st x := eD
  subst eD
  have eG' : ∀ G ∈ dlI st x, ∀ c, G c = true → T c = true := fun G hG => eG G (List.mem_cons_of_mem _ hG)
  have eGx : ∀ c, kb x c = true → T c = true := eG (kb x) List.mem_cons_self
  rw [rstep_m (Or.inr (Or.inr rfl))] at h0 h1
  refine t45_0 I _ ⟨fun q => ⟨Or.inl rfl, h0 ?_ I FrR.rfl'⟩, fun q => ?_⟩
  · rw [b2i_0] at q
    by_cases ht : T c = true
    · rw [if_pos ht]
    · rw [if_neg ht, pout_3, if_neg (by rw [q]; decide)]
  · have hv := nob2i.mp q
    have hc := val_nam hv
    have hfn := fun_nam hf
    have fr : FrR I (upd2 I 2 8 (t ||| bt c).toInt) := ⟨fun id a _ _ _ => upd2_id a, by simp [upd2]⟩
    refine R_introduces hc e8 (fun ht => ⟨_, rfl, fun z => absurd rfl z, fun _ => ⟨Or.inl rfl, h0 ?_ _ fr⟩⟩) (fun ht => ⟨_, rfl, fun _ => ?_, fun z => absurd (by decide) z⟩)
    · rw [eT] at ht; rw [if_pos ht]
    · rw [eT] at ht
      have ep : pout 3 f (kb x) c = some (0, 0, [ins (ins (kb x) f) c, ins (kb x) f]) := by rw [pout_3, if_pos hv]
      rw [if_neg (by rw [ht]; decide), ep] at h1
      have hkx : kb x c = false := by
        cases hk : kb x c with
        | false => rfl
        | true => rw [eGx c hk] at ht; cases ht
      have hfree := bit_free hc hkx
      have hfreef := bit_free hfn hkf
      have u2 : ∀ r, r ≠ 8 → upd2 I 2 8 (t ||| bt c).toInt 2 r = I 2 r := fun r hr => by rw [upd2_at, if_neg (fun z => hr z.2)]
      rw [u2 9 (by decide), e9, bitc_bt hc, toInt_or]
      refine R_open (x := x) (a := bt f ||| bt c) (b := bt f) (m := 1) (by rw [u2 7 (by decide)]; exact e7) (by rw [u2 5 (by decide)]; exact e5) (eR.keep (fun id hid j _ => by rw [upd2_id (by omega)])) (by omega) (by omega) rfl rfl rfl
        (fun I' f1 f2 f3 f4 f5 f6 => ⟨rfl, Or.inr rfl, h1 _ rfl I' (fr.trans f1) ⟨x ||| (bt f ||| bt c), t ||| bt c, (1, bt f ||| bt c, bt f) :: st, f3, by rw [f2]; simp [upd2], f4, f5, by rw [kb_or hc, eT], by simp only [List.length_cons]; omega, fun G hG => ?_, Or.inr ⟨f6, by show (0 : Nat) ≤ 4; omega, ?_, fun z => absurd z (by show ¬ ((0 : Nat) = 3); omega)⟩⟩⟩)
      · intro d hd
        have hG : G ∈ ins (ins (kb x) f) c :: ins (kb x) f :: dlI st x := hG
        rcases List.mem_cons.mp hG with rfl | hG
        · rcases ins_cases hd with rfl | hd
          · exact ins_self _ _
          · rcases ins_cases hd with rfl | hd
            · exact ins_mono hTf
            · exact ins_mono (eGx d hd)
        · rcases List.mem_cons.mp hG with rfl | hG
          · rcases ins_cases hd with rfl | hd
            · exact ins_mono hTf
            · exact ins_mono (eGx d hd)
          · exact ins_mono (eG' G hG d hd)
      · show [ins (ins (kb x) f) c, ins (kb x) f] ++ dlI st x = kb (x ||| (bt f ||| bt c)) :: dlI ((1, bt f ||| bt c, bt f) :: st) (x ||| (bt f ||| bt c))
        simp only [dlI, dE]
        rw [or_def hfreef hfree, or_out hfreef, or_assoc', kb_or hc, kb_or hfn]
        rfl
theorem R_called {f : Int} {Gs : List KS} (h : CR I (4, f, Gs) T n) (hg : Gs ≠ []) (hn : n < 60) (h0 : rstep (4, f, Gs) T c = none → ∀ I', FrR I I' → Q (some (.inl 0)) I') (h1 : ∀ u, rstep (4, f, Gs) T c = some u → ∀ I', FrR I I' → CR I' u.1 u.2 (n + 1) → Q (some (.inl 1)) I') :
    R 46 0 [(0, .inr (some 2)), (1, .inl c)] [] I Q := by
  obtain ⟨x, t, st, e7, e8, e5, eR, eT, en, eG, ⟨e, -⟩ | ⟨e6, -, eD, -⟩⟩ := h
  · exact absurd e hg
  have eD : Gs = kb x :: dlI st x := eD
  subst eD
  rw [rstep_4] at h0 h1
  refine t46_0 I _ ⟨fun q => ⟨Or.inl rfl, h0 ?_ I FrR.rfl'⟩, fun q => ?_⟩
  · rw [b2i_0] at q
    rw [pout_4, if_neg (by rw [q]; simp)]
  · have hv := nob2i.mp q
    have hc := fun_nam hv
    rw [e7]
    have e := and_bit (x := x) hc
    refine ⟨fun q2 => ?_, fun q2 => ⟨Or.inl rfl, h0 ?_ I FrR.rfl'⟩⟩
    · have hk : kb x c = true := by
        have q2 := nob2i.mp q2
        cases hk : kb x c with
        | true => rfl
        | false => rw [e.mpr hk] at q2; simp at q2
      have ep : pout 4 f (kb x) c = some (0, 0, [kb x]) := by rw [pout_4, if_pos ⟨hv, hk⟩]
      rw [ep] at h1
      refine R_open (x := x) (a := 0) (b := 0) (m := 0) e7 e5 eR (by omega) (by omega) rfl rfl rfl (fun I' f1 f2 f3 f4 f5 f6 => ⟨rfl, Or.inr rfl, h1 _ rfl I' f1 ⟨x, t, (0, 0, 0) :: st, by rw [f3, or_0], by rw [f2]; exact e8, f4, f5, eT, by simp only [List.length_cons]; omega, eG, Or.inr ⟨f6, by show (0 : Nat) ≤ 4; omega, ?_, fun z => absurd z (by show ¬ ((0 : Nat) = 3); omega)⟩⟩⟩)
      show [kb x] ++ dlI st x = kb x :: dlI ((0, 0, 0) :: st) x
      simp only [dlI, dE, out_00]
      rfl
    · have hk : kb x c = false := by
        cases hk : kb x c with
        | false => rfl
        | true =>
          have : ¬ iand x.toInt (bitc c) = 0 := fun z => by rw [e.mp z] at hk; cases hk
          exact absurd (nob2i.mpr (by simp [this])) q2
      rw [pout_4, if_neg (by rw [hk]; simp)]
theorem R_takes {s : PS} (h : CR I s T n) (hn : n < 60) (h0 : rstep s T c = none → ∀ I', FrR I I' → Q (some (.inl 0)) I') (h1 : ∀ u, rstep s T c = some u → ∀ I', FrR I I' → CR I' u.1 u.2 (n + 1) → Q (some (.inl 1)) I') :
    R 41 0 [(0, .inr (some 2)), (1, .inl c)] [] I Q := by
  obtain ⟨m, f, Gs⟩ := s
  cases Gs with
  | nil =>
    obtain ⟨x, t, st, -, -, -, -, -, -, -, ⟨-, e6, -⟩ | ⟨-, -, e, -⟩⟩ := h
    · have hq : Q (some (.inl 0)) I := h0 (by unfold rstep pstep; simp) I FrR.rfl'
      refine t41_0 I _ ?_
      rw [e6]
      exact ⟨fun z => absurd z (by decide), fun _ => ⟨fun z => absurd z (by decide), fun _ => ⟨fun z => absurd z (by decide), fun _ => ⟨fun z => absurd z (by decide), fun _ => ⟨fun z => absurd z (by decide), fun _ => ⟨Or.inl rfl, hq⟩⟩⟩⟩⟩⟩
    · cases e
  | cons G Gs =>
    have h' := h
    obtain ⟨x, t, st, -, -, -, -, -, -, -, ⟨e, -⟩ | ⟨e6, em, -, -⟩⟩ := h'
    · cases e
    have e6 : I 2 6 = (m : Int) := e6
    have em : m ≤ 4 := em
    have hg : G :: Gs ≠ [] := by simp
    have q0 : rstep (m, f, G :: Gs) T c = none → ∀ I', FrR I I' → (fun (r : Option AV) (I' : Mem) => ∃ v : Int, r = some (.inl v) ∧ RetB v I' Q) (some (.inl 0)) I' := fun z I' f' => ⟨_, rfl, Or.inl rfl, h0 z I' f'⟩
    have q1 : ∀ u, rstep (m, f, G :: Gs) T c = some u → ∀ I', FrR I I' → CR I' u.1 u.2 (n + 1) → (fun (r : Option AV) (I' : Mem) => ∃ v : Int, r = some (.inl v) ∧ RetB v I' Q) (some (.inl 1)) I' := fun u z I' f' c' => ⟨_, rfl, Or.inr rfl, h1 u z I' f' c'⟩
    refine t41_0 I _ ?_
    rw [e6]
    rcases (by omega : m = 0 ∨ m = 1 ∨ m = 2 ∨ m = 3 ∨ m = 4) with rfl | rfl | rfl | rfl | rfl
    · exact ⟨fun _ => R_first h hg hn q0 q1, fun z => absurd rfl z⟩
    · exact ⟨fun z => absurd z (by decide), fun _ => ⟨fun _ => R_bound h hg hn q0 q1, fun z => absurd rfl z⟩⟩
    · exact ⟨fun z => absurd z (by decide), fun _ => ⟨fun z => absurd z (by decide), fun _ => ⟨fun _ => R_defined h hg hn q0 q1, fun z => absurd rfl z⟩⟩⟩
    · exact ⟨fun z => absurd z (by decide), fun _ => ⟨fun z => absurd z (by decide), fun _ => ⟨fun z => absurd z (by decide), fun _ => ⟨fun _ => R_parameter h hg hn q0 q1, fun z => absurd rfl z⟩⟩⟩⟩
    · exact ⟨fun z => absurd z (by decide), fun _ => ⟨fun z => absurd z (by decide), fun _ => ⟨fun z => absurd z (by decide), fun _ => ⟨fun z => absurd z (by decide), fun _ => ⟨fun _ => R_called h hg hn q0 q1, fun z => absurd rfl z⟩⟩⟩⟩⟩
end Takes
