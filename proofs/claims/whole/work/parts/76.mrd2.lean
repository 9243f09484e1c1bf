/-! The model's reader: one letter. -/
theorem mdl_0 (ts : List Int) (K : KS) : mdl (0 :: ts) K = K :: mdl ts K := by
  show (if (0 : Int) = 0 then _ else _) = _
  rw [if_pos rfl]
theorem mdl_know {c : Int} (hc : nam c = true) (ts : List Int) (K : KS) : mdl ((1000 + c) :: ts) K = mdl ts (ins K c) := by
  have := nam_rng hc
  show (if 1000 + c = 0 then _ else if 1000 + c < 2000 then mdl ts (ins K (1000 + c - 1000)) else _) = _
  rw [if_neg (by omega), if_pos (by omega), show 1000 + c - 1000 = c by omega]
theorem mdl_forget {c : Int} (hc : nam c = true) (ts : List Int) (K : KS) : mdl ((2000 + c) :: ts) K = mdl ts (del K c) := by
  have := nam_rng hc
  show (if 2000 + c = 0 then _ else if 2000 + c < 2000 then _ else mdl ts (del K (2000 + c - 2000))) = _
  rw [if_neg (by omega), if_neg (by omega), show 2000 + c - 2000 = c by omega]
section Part
variable {I : Mem} {Q : Post} {T : KS} {n : Nat} {c : Int}
theorem push_loop {J0 : Mem} (hc1 : hds c = 1) (h58 : c ≠ 58) (h64 : c ≠ 64) (h33 : c ≠ 33) (hQ : ∀ (J : Mem) (ts : List Int), (∀ id, id ≠ 77 → id ≠ 85 → J id = J0 id) → (∀ k, k ≠ 13 → k ≠ 18 → k ≠ 19 → J 77 k = J0 77 k) → Pst J ts → J 77 18 = 0 → ts.length ≤ 399 → (∃ ts0, ts = List.replicate (pts c) 0 ++ ts0 ∧ Pst J0 ts0) → Q (some (.inl 1)) J) {ts0 : List Int} (hP0 : Pst J0 ts0) (hl : ts0.length ≤ 396) :
    ∀ (d k : Nat) (J : Mem), k + d = pts c → (∀ id, id ≠ 77 → id ≠ 85 → J id = J0 id) → (∀ r, r ≠ 13 → r ≠ 18 → r ≠ 19 → J 77 r = J0 77 r) → Pst J (List.replicate k 0 ++ ts0) → R 118 51 [(0, .inr (some 77)), (1, .inl c), (2, .inl (k : Int))] [] J Q := by
  have h3 := pts_le c
  intro d
  induction d with
  | zero =>
    intro k J hk hF1 hF2 hP
    refine t118_51 J _ _ ⟨fun _ => ⟨fun _ => ⟨fun _ => ⟨fun _ => ?_, fun z => absurd h33 z⟩, fun z => absurd h64 z⟩, fun z => absurd h58 z⟩, fun z => absurd (by omega) z⟩
    dsimp only
    have hk : k = pts c := by omega
    rw [hk] at hP
    have e13 : upd2 (upd2 J 77 18 0) 77 19 c 77 13 = J 77 13 := by simp [upd2]
    refine ⟨Or.inr rfl, hQ _ _ (fun id a b => by rw [upd2_id a, upd2_id a]; exact hF1 id a b) (fun r a b e => ?_) ⟨by rw [e13]; exact hP.1, hP.2.keep (fun j _ => by rw [upd2_id (by decide), upd2_id (by decide)])⟩ (by simp [upd2]) (by rw [List.length_append, List.length_replicate]; omega) ⟨ts0, rfl, hP0⟩⟩
    rw [upd2_at, if_neg (fun q => e q.2), upd2_at, if_neg (fun q => b q.2)]
    exact hF2 r a b e
  | succ d ih =>
    intro k J hk hF1 hF2 hP
    have e1 : ((hds c - 1 : Nat) : Int) = 0 := by rw [hc1]; rfl
    obtain ⟨q1, q2, q3, q4⟩ := push_ok (t := 0) hP (by rw [List.length_append, List.length_replicate]; omega) (Or.inl rfl)
    refine t118_51 J _ _ ⟨fun z => absurd z (by omega), fun _ => ⟨fun z => absurd e1 z, fun _ => ⟨q1, ?_⟩⟩⟩
    rw [wrap_succ (by omega)]
    refine ih (k + 1) _ (by omega) (fun id a b => by rw [q3 id a b]; exact hF1 id a b) (fun r a b e => by rw [q4 r a]; exact hF2 r a b e) ?_
    rw [List.replicate_succ]
    exact q2
theorem R_takesPart {f : Int} {Gs : List KS} (h : MRg nrm I (0, f, Gs) T n) (hg : Gs ≠ []) (hn : n < 60) (h0 : rstep (0, f, Gs) T c = none → ∀ I', FrMe I I' → Q (some (.inl 0)) I') (h1 : ∀ u, rstep (0, f, Gs) T c = some u → ∀ I', FrMe I I' → MRg (fun _ => True) I' u.1 u.2 (n + 1) → Q (some (.inl 1)) I') :
    R 118 0 [(0, .inr (some 77)), (1, .inl c)] [] I Q := by
  obtain ⟨K, ts, eK, eTt, eP, en, eG, ⟨-, e18, eD, eN⟩ | ⟨-, ⟨e, -⟩ | ⟨e, -⟩ | ⟨e, -⟩ | ⟨e, -⟩⟩⟩ := h
  · have eD : Gs = mdl ts K := eD
    rcases eN with rfl | ⟨ts', rfl⟩
    · exact absurd eD hg
    rw [mdl_0] at eD
    subst eD
    simp only [List.length_cons] at en
    have eG' : ∀ G ∈ mdl ts' K, ∀ c, G c = true → T c = true := fun G hG => eG G (List.mem_cons_of_mem _ hG)
    have eGx : ∀ c, K c = true → T c = true := eG K List.mem_cons_self
    rw [rstep_0] at h0 h1
    generalize hJ : upd2 I 77 13 (wrap (I 77 13 - 1)) = J
    have ji : ∀ id, id ≠ 77 → J id = I id := fun id a => by rw [← hJ]; exact upd2_id a
    have j7 : ∀ k, k ≠ 13 → J 77 k = I 77 k := fun k a => by rw [← hJ, upd2_at, if_neg (fun q => a q.2)]
    have jP : Pst J ts' := by
      refine ⟨?_, eP.2.2.2.keep (fun j _ => by rw [ji 85 (by decide)])⟩
      rw [← hJ, upd2_at, if_pos ⟨rfl, rfl⟩, eP.1]
      simp only [List.length_cons]
      rw [wrap_pred (by omega)]
    -- one letter
    have one : ∀ Ss : List KS, hds c = 1 → c ≠ 58 → c ≠ 64 → c ≠ 33 → pout 0 f K c = some (0, 0, Ss) → Ss ++ mdl ts' K = mdl (List.replicate (pts c) 0 ++ ts') K → (∀ G ∈ Ss, G = K) → R 118 51 [(0, .inr (some 77)), (1, .inl c), (2, .inl 0)] [] J Q := by
      intro Ss a1 a2 a3 a4 ep hS hG
      rw [ep] at h1
      have h3 := pts_le c
      refine push_loop (c := c) (J0 := J) a1 a2 a3 a4 (fun M tz g1 g2 g3 g4 g5 g6 => ?_) jP (by omega) (pts c) 0 J (by omega) (fun _ _ _ => rfl) (fun _ _ _ _ => rfl) jP
      obtain ⟨t0, rfl, hp0⟩ := g6
      have et0 : mdl t0 K = mdl ts' K ∧ t0.length = ts'.length := by
        have key : ∀ (a b : List Int) (M : Mem), a.length = b.length → RowM M a → RowM M b → a = b := by
          intro a
          induction a with
          | nil => intro b M hl _ _; exact (List.length_eq_zero_iff.mp (by simpa using hl.symm)).symm
          | cons t a ih =>
            intro b M hl ha hb
            cases b with
            | nil => cases hl
            | cons t2 b =>
              simp only [List.length_cons] at hl
              have hl2 : a.length = b.length := by omega
              have e1 := ha.1
              have e2 := hb.1
              rw [hl2] at e1
              rw [ih b M hl2 ha.2.2 hb.2.2, ← e1, ← e2]
        have hl : t0.length = ts'.length := by have := hp0.1; have := jP.1; omega
        rw [key t0 ts' J hl hp0.2 jP.2]
        exact ⟨rfl, rfl⟩
      have eall : t0 = ts' := by
        have key : ∀ (a b : List Int) (M : Mem), a.length = b.length → RowM M a → RowM M b → a = b := by
          intro a
          induction a with
          | nil => intro b M hl _ _; exact (List.length_eq_zero_iff.mp (by simpa using hl.symm)).symm
          | cons t a ih =>
            intro b M hl ha hb
            cases b with
            | nil => cases hl
            | cons t2 b =>
              simp only [List.length_cons] at hl
              have hl2 : a.length = b.length := by omega
              have e1 := ha.1
              have e2 := hb.1
              rw [hl2] at e1
              rw [ih b M hl2 ha.2.2 hb.2.2, ← e1, ← e2]
        exact key t0 ts' J et0.2 hp0.2 jP.2
      subst eall
      refine h1 _ rfl M ⟨fun id b1 b2 _ _ => by rw [g1 id b1 b2, ji id b1], fun k b1 b2 b3 => by rw [g2 k b1 b2 b3, j7 k b1]⟩ ⟨K, _, fun j hj => by rw [g1 87 (by decide) (by decide), ji 87 (by decide)]; exact eK j hj, fun j hj => by rw [g1 86 (by decide) (by decide), ji 86 (by decide)]; exact eTt j hj, g3, by rw [List.length_append, List.length_replicate]; omega, fun G hG' => ?_, Or.inl ⟨rfl, g4, hS, trivial⟩⟩
      rcases List.mem_append.mp hG' with hG' | hG'
      · rw [hG G hG']; exact eGx
      · exact eG' G hG'
    -- a letter before names
    have pre : ∀ (m : Nat) (v : Int), m ≠ 0 → (m = 1 ∧ v = 1 ∧ c = 58 ∨ m = 2 ∧ v = 2 ∨ m = 4 ∧ v = 3) → pout 0 f K c = some (m, 0, [K]) → RetB 1 (upd2 (upd2 J 77 18 v) 77 19 c) Q := by
      intro m v hm0 hm ep
      rw [ep] at h1
      have x7 : ∀ k, k ≠ 18 → k ≠ 19 → upd2 (upd2 J 77 18 v) 77 19 c 77 k = J 77 k := fun k a b => by rw [upd2_at, if_neg (fun q => b q.2), upd2_at, if_neg (fun q => a q.2)]
      have xi : ∀ id, id ≠ 77 → upd2 (upd2 J 77 18 v) 77 19 c id = J id := fun id a => by rw [upd2_id a, upd2_id a]
      refine ⟨Or.inr rfl, h1 _ rfl _ ⟨fun id a _ _ _ => by rw [xi id a, ji id a], fun k a b e => by rw [x7 k b e, j7 k a]⟩ ⟨K, ts', fun j hj => by rw [xi 87 (by decide), ji 87 (by decide)]; exact eK j hj, fun j hj => by rw [xi 86 (by decide), ji 86 (by decide)]; exact eTt j hj, ⟨by rw [x7 13 (by decide) (by decide)]; exact jP.1, jP.2.keep (fun j _ => by rw [xi 85 (by decide)])⟩, by omega, eG, Or.inr ⟨rfl, ?_⟩⟩⟩
      have v18 : upd2 (upd2 J 77 18 v) 77 19 c 77 18 = v := by simp [upd2]
      have v19 : upd2 (upd2 J 77 18 v) 77 19 c 77 19 = c := by simp [upd2]
      rw [v18, v19]
      rcases hm with ⟨rfl, rfl, hc⟩ | ⟨rfl, rfl⟩ | ⟨rfl, rfl⟩
      · exact Or.inl ⟨rfl, rfl, hc⟩
      · exact Or.inr (Or.inl ⟨rfl, rfl⟩)
      · exact Or.inr (Or.inr (Or.inr ⟨rfl, rfl⟩))
    have leaf : (isDig c = true ∨ isInp c = true ∨ (isVal c = true ∧ K c = true)) → R 118 51 [(0, .inr (some 77)), (1, .inl c), (2, .inl 0)] [] J Q := by
      intro hl
      have hl' : isDig c = true ∨ isVal c = true ∨ isInp c = true := by
        rcases hl with h | h | h
        · exact Or.inl h
        · exact Or.inr (Or.inr h)
        · exact Or.inr (Or.inl h.1)
      obtain ⟨l1, l2, l3, l4⟩ := leaf_pts hl'
      have l5 : c ≠ 33 := by intro e; rw [e] at l1; cases l1
      refine one [] l2 l3 l4 l5 (by rw [pout_0, if_pos hl]) ?_ (fun G hG => by cases hG)
      rw [l1]; rfl
    -- parts
    have parts : ¬ (isDig c = true ∨ isInp c = true ∨ (isVal c = true ∧ K c = true)) → (¬ ((pts c : Nat) : Int) = 0 → R 118 51 [(0, .inr (some 77)), (1, .inl c), (2, .inl 0)] [] J Q) ∧ (¬ (¬ ((pts c : Nat) : Int) = 0) → RetB 0 I Q) := by
      intro hl
      refine ⟨fun z => ?_, fun z => ?_⟩
      · by_cases ho : isOpr c = true
        · obtain ⟨-, -, -, -, -, q6, q7, q8⟩ := isOpr_not ho
          refine one [K, K] (opr_hds ho) q6 q7 q8 (by rw [pout_0, if_neg hl, if_pos ho]) ?_ (fun G hG => by simpa using hG)
          rw [show pts c = 2 by simp [pts, ho]]
          show [K, K] ++ mdl ts' K = mdl (0 :: 0 :: ts') K
          rw [mdl_0, mdl_0]; rfl
        · by_cases h63 : c = 63
          · refine one [K, K, K] (by rw [h63]; rfl) (by omega) (by omega) (by omega) (by rw [pout_0, if_neg hl, if_neg ho, if_pos h63]) ?_ (fun G hG => by simpa using hG)
            rw [show pts c = 3 by rw [h63]; rfl]
            show [K, K, K] ++ mdl ts' K = mdl (0 :: 0 :: 0 :: ts') K
            rw [mdl_0, mdl_0, mdl_0]; rfl
          · have hk : c = 58 ∨ c = 64 ∨ c = 33 := by
              unfold pts at z
              by_cases a : isOpr c = true ∨ c = 58 ∨ c = 64
              · rcases a with a | a | a
                · exact absurd a ho
                · exact Or.inl a
                · exact Or.inr (Or.inl a)
              · rw [if_neg a, if_neg h63] at z
                by_cases b : c = 33
                · exact Or.inr (Or.inr b)
                · rw [if_neg b] at z; exact absurd rfl z
            have hh : ¬ ((hds c - 1 : Nat) : Int) = 0 := by rcases hk with e | e | e <;> rw [e] <;> decide
            have hp : ¬ ((pts c : Nat) : Int) ≤ 0 := by omega
            refine t118_51 J _ _ ⟨fun w => absurd w hp, fun _ => ⟨fun _ => ⟨fun n58 => ⟨fun n64 => ⟨fun n33 => by omega, fun e => ?_⟩, fun e => ?_⟩, fun e => ?_⟩, fun w => absurd hh w⟩⟩
            · have e : c = 33 := by simpa using e
              exact pre 4 3 (by omega) (Or.inr (Or.inr ⟨rfl, rfl⟩)) (by rw [pout_0, if_neg hl, if_neg ho, if_neg h63, if_neg n58, if_neg n64, if_pos e])
            · have e : c = 64 := by simpa using e
              exact pre 2 2 (by omega) (Or.inr (Or.inl ⟨rfl, rfl⟩)) (by rw [pout_0, if_neg hl, if_neg ho, if_neg h63, if_neg n58, if_pos e])
            · have e : c = 58 := by simpa using e
              exact pre 1 1 (by omega) (Or.inl ⟨rfl, rfl, e⟩) (by rw [pout_0, if_neg hl, if_neg ho, if_neg h63, if_pos e])
      · have z : pts c = 0 := by omega
        refine ⟨Or.inl rfl, h0 ?_ I FrMe.rfl'⟩
        have ho : ¬ isOpr c = true := by intro w; rw [show pts c = 2 by simp [pts, w]] at z; omega
        have n63 : c ≠ 63 := by intro w; rw [w] at z; cases z
        have n58 : c ≠ 58 := by intro w; rw [w] at z; cases z
        have n64 : c ≠ 64 := by intro w; rw [w] at z; cases z
        have n33 : c ≠ 33 := by intro w; rw [w] at z; cases z
        rw [pout_0, if_neg hl, if_neg ho, if_neg n63, if_neg n58, if_neg n64, if_neg n33]
    refine t118_0 I _ ?_
    dsimp only
    rw [hJ]
    refine ⟨fun q => leaf (Or.inl (nob2i.mp q)), fun q => ⟨fun q2 => leaf (Or.inr (Or.inl (nob2i.mp q2))), fun q2 => ⟨fun q3 => parts ?_, fun q3 => ?_⟩⟩⟩
    · rintro (z | z | z)
      · exact q (nob2i.mpr z)
      · exact q2 (nob2i.mpr z)
      · rw [b2i_0, z.1] at q3; cases q3
    · have hv := nob2i.mp q3
      have hc := val_nam hv
      rw [KA_at eK hc]
      refine ⟨inb_nam hc, fun q4 => leaf (Or.inr (Or.inr ⟨hv, nob2i.mp q4⟩)), fun q4 => parts ?_⟩
      rintro (z | z | z)
      · exact q (nob2i.mpr z)
      · exact q2 (nob2i.mpr z)
      · exact q4 (nob2i.mpr z.2)
  · cases e
  · cases e
  · cases e
  · cases e
end Part
