/-! The model's reader: names, and a whole letter. -/
section Names
variable {I : Mem} {Q : Post} {T : KS} {n : Nat} {c : Int}
theorem R_takesName {m : Nat} {f : Int} {Gs : List KS} (hm : m = 1 ∨ m = 3) (h : MRg nrm I (m, f, Gs) T n) (hn : n < 60) (h0 : rstep (m, f, Gs) T c = none → ∀ I', FrMe I I' → Q (some (.inl 0)) I') (h1 : ∀ u, rstep (m, f, Gs) T c = some u → ∀ I', FrMe I I' → MRg (fun _ => True) I' u.1 u.2 (n + 1) → Q (some (.inl 1)) I') :
    R 119 0 [(0, .inr (some 77)), (1, .inl c)] [] I Q := by
  obtain ⟨K, ts, eK, eTt, eP, en, eG, ⟨e, -⟩ | ⟨eD, hM⟩⟩ := h
  · have e : m = 0 := e
    omega
  have eD : Gs = K :: mdl ts K := eD
  subst eD
  have eG' : ∀ G ∈ mdl ts K, ∀ c, G c = true → T c = true := fun G hG => eG G (List.mem_cons_of_mem _ hG)
  have eGx : ∀ c, K c = true → T c = true := eG K List.mem_cons_self
  rw [rstep_m (by omega)] at h0 h1
  refine t119_0 I _ ⟨fun q => ⟨Or.inl rfl, h0 ?_ I FrMe.rfl'⟩, fun q => ?_⟩
  · rw [b2i_0] at q
    by_cases ht : T c = true
    · rw [if_pos ht]
    · rw [if_neg ht]
      rcases hm with rfl | rfl
      · rw [pout_1, if_neg (by rw [q]; decide)]
      · rw [pout_3, if_neg (by rw [q]; decide)]
  · have hv := nob2i.mp q
    have hc := val_nam hv
    have hr := nam_rng hc
    rw [KA_at eTt hc]
    refine ⟨inb_nam hc, fun q2 => ⟨inb_nam hc, Or.inr rfl, ?_⟩, fun q2 => ⟨Or.inl rfl, h0 (by rw [if_pos (nob2i.mp q2)]) I FrMe.rfl'⟩⟩
    rw [b2i_0] at q2
    have hKc : K c = false := by
      cases hk : K c with
      | false => rfl
      | true => rw [eGx c hk] at q2; cases q2
    rw [if_neg (by rw [q2]; decide)] at h1
    dsimp only
    generalize hJ : upd2 I 86 c.toNat 1 = J
    have ji : ∀ id, id ≠ 86 → J id = I id := fun id a => by rw [← hJ]; exact upd2_id a
    have jT : KA J 86 (ins T c) := KA_put eTt hc (by rw [← hJ])
    have jP : Pst J ts := ⟨by rw [ji 77 (by decide)]; exact eP.1, eP.2.keep (fun j _ => by rw [ji 85 (by decide)])⟩
    have w1 : wrap (2000 + c) = 2000 + c := wrap_of (by omega) (by omega)
    have w2 : wrap (1000 + c) = 1000 + c := wrap_of (by omega) (by omega)
    rw [w1, w2]
    -- the end
    have fin : ∀ (M : Mem) (tz Ds : List _), Pst M tz → (∀ id, id ≠ 77 → id ≠ 85 → M id = J id) → (∀ k, k ≠ 13 → M 77 k = J 77 k) → tz.length ≤ ts.length + 6 → (∃ G1 G2 : KS, pout m f K c = some (0, 0, [G1, G2]) ∧ [G1, G2] ++ mdl ts K = mdl tz K ∧ (∀ d, G1 d = true → ins T c d = true) ∧ (∀ d, G2 d = true → ins T c d = true)) → (Ds = ([] : List Int)) → RetB 1 (upd2 M 77 18 0) Q := by
      intro M tz Ds g1 g2 g3 g4 ⟨G1, G2, p1, p2, p3, p4⟩ _
      rw [p1] at h1
      have x7 : ∀ k, k ≠ 18 → upd2 M 77 18 0 77 k = M 77 k := fun k a => by rw [upd2_at, if_neg (fun q => a q.2)]
      have xi : ∀ id, id ≠ 77 → upd2 M 77 18 0 id = M id := fun id a => upd2_id a
      refine ⟨Or.inr rfl, h1 _ rfl _ ⟨fun id a b d e => by rw [xi id a, g2 id a b, ji id d], fun k a b d => by rw [x7 k b, g3 k a, ji 77 (by decide)]⟩ ⟨K, tz, fun j hj => by rw [xi 87 (by decide), g2 87 (by decide) (by decide), ji 87 (by decide)]; exact eK j hj, fun j hj => by rw [xi 86 (by decide), g2 86 (by decide) (by decide)]; exact jT j hj, ⟨by rw [x7 13 (by decide)]; exact g1.1, g1.2.keep (fun j _ => by rw [xi 85 (by decide)])⟩, by omega, fun G hG => ?_, Or.inl ⟨rfl, by simp [upd2], p2, trivial⟩⟩⟩
      have hG : G ∈ G1 :: G2 :: mdl ts K := hG
      rcases List.mem_cons.mp hG with rfl | hG
      · exact p3
      · rcases List.mem_cons.mp hG with rfl | hG
        · exact p4
        · exact fun d hd => ins_mono (eG' G hG d hd)
    have e19 : J 77 19 = I 77 19 := by rw [ji 77 (by decide)]
    have hlen : ts.length + 6 < 400 := by omega
    rcases hM with ⟨hm1, -, m19⟩ | ⟨hm2, -⟩ | ⟨hm3, -, m19, hf, hTf, hKf⟩ | ⟨hm4, -⟩
    · have hm1 : m = 1 := hm1
      rw [e19, m19]
      refine ⟨fun z => absurd rfl z, fun _ => ?_⟩
      obtain ⟨a1, a2, a3, a4⟩ := push_ok (t := 2000 + c) jP (by omega) (Or.inr (Or.inr ⟨c, hc, rfl⟩))
      refine ⟨a1, ?_⟩
      generalize upd2 (upd2 J 85 (J 77 13).toNat (2000 + c)) 77 13 (wrap (J 77 13 + 1)) = M1 at a2 a3 a4 ⊢
      obtain ⟨b1, b2, b3, b4⟩ := push_ok (t := 0) a2 (by simp only [List.length_cons]; omega) (Or.inl rfl)
      refine ⟨b1, ?_⟩
      generalize upd2 (upd2 M1 85 (M1 77 13).toNat 0) 77 13 (wrap (M1 77 13 + 1)) = M2 at b2 b3 b4 ⊢
      obtain ⟨d1, d2, d3, d4⟩ := push_ok (t := 1000 + c) b2 (by simp only [List.length_cons]; omega) (Or.inr (Or.inl ⟨c, hc, rfl⟩))
      refine ⟨d1, ?_⟩
      generalize upd2 (upd2 M2 85 (M2 77 13).toNat (1000 + c)) 77 13 (wrap (M2 77 13 + 1)) = M3 at d2 d3 d4 ⊢
      obtain ⟨f1, f2, f3, f4⟩ := push_ok (t := 0) d2 (by simp only [List.length_cons]; omega) (Or.inl rfl)
      refine ⟨f1, ?_⟩
      generalize upd2 (upd2 M3 85 (M3 77 13).toNat 0) 77 13 (wrap (M3 77 13 + 1)) = M4 at f2 f3 f4 ⊢
      refine fin M4 _ [] f2 (fun id x y => by rw [f3 id x y, d3 id x y, b3 id x y, a3 id x y]) (fun k x => by rw [f4 k x, d4 k x, b4 k x, a4 k x]) (by simp only [List.length_cons]; omega) ⟨K, ins K c, by rw [hm1, pout_1, if_pos hv], ?_, fun d hd => ins_mono (eGx d hd), fun d hd => ?_⟩ rfl
      · rw [mdl_0, mdl_know hc, mdl_0, mdl_forget hc, del_ins hKc]; rfl
      · rcases ins_cases hd with rfl | hd
        · exact ins_self _ _
        · exact ins_mono (eGx d hd)
    · have hm2 : m = 2 := hm2
      omega
    · have hm3 : m = 3 := hm3
      have m19 : I 77 19 = f := m19
      have hf : isFun f = true := hf
      have hTf : T f = true := hTf
      have hKf : K f = false := hKf
      have hfn := fun_nam hf
      have hrf := nam_rng hfn
      have hf58 : ¬ f = 58 := by omega
      have hcf : c ≠ f := by intro e; rw [e, hTf] at q2; cases q2
      have w3 : wrap (2000 + f) = 2000 + f := wrap_of (by omega) (by omega)
      have w4 : wrap (1000 + f) = 1000 + f := wrap_of (by omega) (by omega)
      rw [e19, m19, w3]
      refine ⟨fun _ => ?_, fun z => absurd hf58 z⟩
      obtain ⟨a1, a2, a3, a4⟩ := push_ok (t := 2000 + f) jP (by omega) (Or.inr (Or.inr ⟨f, hfn, rfl⟩))
      refine ⟨a1, ?_⟩
      generalize upd2 (upd2 J 85 (J 77 13).toNat (2000 + f)) 77 13 (wrap (J 77 13 + 1)) = M1 at a2 a3 a4 ⊢
      obtain ⟨b1, b2, b3, b4⟩ := push_ok (t := 0) a2 (by simp only [List.length_cons]; omega) (Or.inl rfl)
      refine ⟨b1, ?_⟩
      generalize upd2 (upd2 M1 85 (M1 77 13).toNat 0) 77 13 (wrap (M1 77 13 + 1)) = M2 at b2 b3 b4 ⊢
      obtain ⟨d1, d2, d3, d4⟩ := push_ok (t := 2000 + c) b2 (by simp only [List.length_cons]; omega) (Or.inr (Or.inr ⟨c, hc, rfl⟩))
      refine ⟨d1, ?_⟩
      generalize upd2 (upd2 M2 85 (M2 77 13).toNat (2000 + c)) 77 13 (wrap (M2 77 13 + 1)) = M3 at d2 d3 d4 ⊢
      obtain ⟨f1, f2, f3, f4⟩ := push_ok (t := 0) d2 (by simp only [List.length_cons]; omega) (Or.inl rfl)
      refine ⟨f1, ?_⟩
      generalize upd2 (upd2 M3 85 (M3 77 13).toNat 0) 77 13 (wrap (M3 77 13 + 1)) = M4 at f2 f3 f4 ⊢
      obtain ⟨g1, g2, g3, g4⟩ := push_ok (t := 1000 + c) f2 (by simp only [List.length_cons]; omega) (Or.inr (Or.inl ⟨c, hc, rfl⟩))
      refine ⟨g1, ?_⟩
      generalize upd2 (upd2 M4 85 (M4 77 13).toNat (1000 + c)) 77 13 (wrap (M4 77 13 + 1)) = M5 at g2 g3 g4 ⊢
      have e5 : M5 77 19 = f := by rw [g4 19 (by decide), f4 19 (by decide), d4 19 (by decide), b4 19 (by decide), a4 19 (by decide), e19, m19]
      rw [e5, w4]
      obtain ⟨k1, k2, k3, k4⟩ := push_ok (t := 1000 + f) g2 (by simp only [List.length_cons]; omega) (Or.inr (Or.inl ⟨f, hfn, rfl⟩))
      refine ⟨k1, ?_⟩
      generalize upd2 (upd2 M5 85 (M5 77 13).toNat (1000 + f)) 77 13 (wrap (M5 77 13 + 1)) = M6 at k2 k3 k4 ⊢
      refine fin M6 _ [] k2 (fun id x y => by rw [k3 id x y, g3 id x y, f3 id x y, d3 id x y, b3 id x y, a3 id x y]) (fun k x => by rw [k4 k x, g4 k x, f4 k x, d4 k x, b4 k x, a4 k x]) (by simp only [List.length_cons]; omega) ⟨ins (ins K f) c, ins K f, by rw [hm3, pout_3, if_pos hv], ?_, fun d hd => ?_, fun d hd => ?_⟩ rfl
      · have hfc : ins K f c = false := by unfold ins; simp [hcf, hKc]
        rw [mdl_know hfn, mdl_know hc, mdl_0, mdl_forget hc, del_ins hfc, mdl_0, mdl_forget hfn, del_ins hKf]; rfl
      · rcases ins_cases hd with rfl | hd
        · exact ins_self _ _
        · rcases ins_cases hd with rfl | hd
          · exact ins_mono hTf
          · exact ins_mono (eGx d hd)
      · rcases ins_cases hd with rfl | hd
        · exact ins_mono hTf
        · exact ins_mono (eGx d hd)
    · have hm4 : m = 4 := hm4
      omega
theorem R_takesFunction {f : Int} {Gs : List KS} (h : MRg nrm I (2, f, Gs) T n) (hn : n < 60) (h0 : rstep (2, f, Gs) T c = none → ∀ I', FrMe I I' → Q (some (.inl 0)) I') (h1 : ∀ u, rstep (2, f, Gs) T c = some u → ∀ I', FrMe I I' → MRg (fun _ => True) I' u.1 u.2 (n + 1) → Q (some (.inl 1)) I') :
    R 120 0 [(0, .inr (some 77)), (1, .inl c)] [] I Q := by
  obtain ⟨K, ts, eK, eTt, eP, en, eG, ⟨e, -⟩ | ⟨eD, hM⟩⟩ := h
  · cases e
  have eD : Gs = K :: mdl ts K := eD
  subst eD
  have eGx : ∀ c, K c = true → T c = true := eG K List.mem_cons_self
  rw [rstep_m (by omega)] at h0 h1
  refine t120_0 I _ ⟨fun q => ⟨Or.inl rfl, h0 ?_ I FrMe.rfl'⟩, fun q => ?_⟩
  · rw [b2i_0] at q
    by_cases ht : T c = true
    · rw [if_pos ht]
    · rw [if_neg ht, pout_2, if_neg (by rw [q]; decide)]
  · have hv := nob2i.mp q
    have hc := fun_nam hv
    rw [KA_at eTt hc]
    refine ⟨inb_nam hc, fun q2 => ⟨inb_nam hc, Or.inr rfl, ?_⟩, fun q2 => ⟨Or.inl rfl, h0 (by rw [if_pos (nob2i.mp q2)]) I FrMe.rfl'⟩⟩
    rw [b2i_0] at q2
    have hKc : K c = false := by
      cases hk : K c with
      | false => rfl
      | true => rw [eGx c hk] at q2; cases q2
    have ep : pout 2 f K c = some (3, c, [K]) := by rw [pout_2, if_pos hv]
    rw [if_neg (by rw [q2]; decide), ep] at h1
    dsimp only
    generalize hJ : upd2 (upd2 (upd2 I 86 c.toNat 1) 77 19 c) 77 18 1 = J
    have ji : ∀ id, id ≠ 77 → id ≠ 86 → J id = I id := fun id a b => by rw [← hJ, upd2_id a, upd2_id a, upd2_id b]
    have j7 : ∀ k, k ≠ 18 → k ≠ 19 → J 77 k = I 77 k := fun k a b => by rw [← hJ, upd2_at, if_neg (fun q => a q.2), upd2_at, if_neg (fun q => b q.2), upd2_id (by decide)]
    have jT : KA J 86 (ins T c) := KA_put eTt hc (by rw [← hJ, upd2_id (by decide), upd2_id (by decide)])
    refine ⟨Or.inr rfl, h1 _ rfl J ⟨fun id a _ b _ => ji id a b, fun k _ a b => j7 k a b⟩ ⟨K, ts, fun j hj => by rw [ji 87 (by decide) (by decide)]; exact eK j hj, jT, ⟨by rw [j7 13 (by decide) (by decide)]; exact eP.1, eP.2.keep (fun j _ => by rw [ji 85 (by decide) (by decide)])⟩, by omega, fun G hG d hd => ins_mono (eG G hG d hd), Or.inr ⟨rfl, Or.inr (Or.inr (Or.inl ⟨rfl, by rw [← hJ]; simp [upd2], by rw [← hJ]; simp [upd2], hv, ins_self _ _, hKc⟩))⟩⟩⟩
theorem R_takesCalled {f : Int} {Gs : List KS} (h : MRg nrm I (4, f, Gs) T n) (hn : n < 60) (h0 : rstep (4, f, Gs) T c = none → ∀ I', FrMe I I' → Q (some (.inl 0)) I') (h1 : ∀ u, rstep (4, f, Gs) T c = some u → ∀ I', FrMe I I' → MRg (fun _ => True) I' u.1 u.2 (n + 1) → Q (some (.inl 1)) I') :
    R 121 0 [(0, .inr (some 77)), (1, .inl c)] [] I Q := by
  obtain ⟨K, ts, eK, eTt, eP, en, eG, ⟨e, -⟩ | ⟨eD, hM⟩⟩ := h
  · cases e
  have eD : Gs = K :: mdl ts K := eD
  subst eD
  rw [rstep_4] at h0 h1
  refine t121_0 I _ ⟨fun q => ⟨Or.inl rfl, h0 ?_ I FrMe.rfl'⟩, fun q => ?_⟩
  · rw [b2i_0] at q
    rw [pout_4, if_neg (by rw [q]; simp)]
  · have hv := nob2i.mp q
    have hc := fun_nam hv
    rw [KA_at eK hc]
    refine ⟨inb_nam hc, fun q2 => ?_, fun q2 => ⟨Or.inl rfl, h0 ?_ I FrMe.rfl'⟩⟩
    · have hk := nob2i.mp q2
      have ep : pout 4 f K c = some (0, 0, [K]) := by rw [pout_4, if_pos ⟨hv, hk⟩]
      rw [ep] at h1
      obtain ⟨a1, a2, a3, a4⟩ := push_ok (t := 0) eP (by omega) (Or.inl rfl)
      refine ⟨a1, ?_⟩
      dsimp only
      generalize upd2 (upd2 I 85 (I 77 13).toNat 0) 77 13 (wrap (I 77 13 + 1)) = M at a2 a3 a4 ⊢
      have x7 : ∀ k, k ≠ 18 → upd2 M 77 18 0 77 k = M 77 k := fun k a => by rw [upd2_at, if_neg (fun q => a q.2)]
      have xi : ∀ id, id ≠ 77 → upd2 M 77 18 0 id = M id := fun id a => upd2_id a
      refine ⟨Or.inr rfl, h1 _ rfl _ ⟨fun id a b _ _ => by rw [xi id a, a3 id a b], fun k a b _ => by rw [x7 k b, a4 k a]⟩ ⟨K, 0 :: ts, fun j hj => by rw [xi 87 (by decide), a3 87 (by decide) (by decide)]; exact eK j hj, fun j hj => by rw [xi 86 (by decide), a3 86 (by decide) (by decide)]; exact eTt j hj, ⟨by rw [x7 13 (by decide)]; exact a2.1, a2.2.keep (fun j _ => by rw [xi 85 (by decide)])⟩, by simp only [List.length_cons]; omega, eG, Or.inl ⟨rfl, by simp [upd2], ?_, trivial⟩⟩⟩
      show [K] ++ mdl ts K = mdl (0 :: ts) K
      rw [mdl_0]; rfl
    · rw [pout_4, if_neg (fun z => q2 (nob2i.mpr z.2))]
theorem pout_big {m : Nat} {f : Int} {G : KS} (h : 127 < c) : pout m f G c = none := by
  have h1 : isDig c = false := by unfold isDig; simp; omega
  have h2 : isInp c = false := by unfold isInp; simp; omega
  have h3 : isVal c = false := by unfold isVal; simp; omega
  have h4 : isOpr c = false := by unfold isOpr; simp; omega
  have h5 : isFun c = false := by unfold isFun; simp; omega
  unfold pout
  split
  · rw [if_neg (by rw [h1, h2, h3]; simp), if_neg (by rw [h4]; decide), if_neg (by omega), if_neg (by omega), if_neg (by omega), if_neg (by omega)]
  · rw [if_neg (by rw [h3]; decide)]
  · rw [if_neg (by rw [h5]; decide)]
  · rw [if_neg (by rw [h3]; decide)]
  · rw [if_neg (by rw [h5]; simp)]
theorem rstep_none {s : PS} (h : pstep s c = none) : rstep s T c = none := by
  unfold rstep
  rw [h]
  split <;> rfl
/-- takes: the letter goes into the row of letters read -/
theorem R_mtakes {s : PS} (h : MRg nrm I s T n) (hn : n < 60) (h17 : I 77 17 = (n : Int)) (h0 : rstep s T c = none → ∀ I', FrMe I I' → Q (some (.inl 0)) I')
    (h1 : ∀ u, rstep s T c = some u → ∀ I', FrMd I I' → I' 77 17 = ((n + 1 : Nat) : Int) → (∀ j, I' 88 j = if j = n then c else I 88 j) → MRg nrm I' u.1 u.2 (n + 1) → Q (some (.inl 1)) I') :
    R 122 0 [(0, .inr (some 77)), (1, .inl c)] [] I Q := by
  -- behind the letter's kind
  have q0 : rstep s T c = none → ∀ I', FrMe I I' → (fun (r : Option AV) (I1 : Mem) => ∃ v1 : Int, r = some (.inl v1) ∧ (R 122 74 [(0, .inr (some 77)), (1, .inl c)] [.inl v1] I1 Q)) (some (.inl 0)) I' :=
    fun z I' f => ⟨_, rfl, t122_74 I' _ _ ⟨fun _ => ⟨Or.inl rfl, h0 z I' f⟩, fun w => absurd rfl w⟩⟩
  have q1 : ∀ u, rstep s T c = some u → ∀ I', FrMe I I' → MRg (fun _ => True) I' u.1 u.2 (n + 1) → (fun (r : Option AV) (I1 : Mem) => ∃ v1 : Int, r = some (.inl v1) ∧ (R 122 74 [(0, .inr (some 77)), (1, .inl c)] [.inl v1] I1 Q)) (some (.inl 1)) I' := by
    intro u hu I' f hR
    have e17 : I' 77 17 = (n : Int) := by rw [f.2 17 (by decide) (by decide) (by decide)]; exact h17
    refine ⟨_, rfl, t122_74 I' _ _ ⟨fun w => absurd w (by decide), fun _ => ⟨by rw [e17]; exact inb_nat hn, ?_⟩⟩⟩
    dsimp only
    rw [e17, toNat_c, upd2_id (show 77 ≠ 88 by decide), e17, wrap_succ (by omega)]
    generalize hJ : upd2 (upd2 I' 88 n c) 77 17 ((n + 1 : Nat) : Int) = J
    have ji : ∀ id, id ≠ 77 → id ≠ 88 → J id = I' id := fun id a b => by rw [← hJ, upd2_id a, upd2_id b]
    have j7 : ∀ k, k ≠ 17 → J 77 k = I' 77 k := fun k a => by rw [← hJ, upd2_at, if_neg (fun q => a q.2), upd2_id (by decide)]
    have j17 : J 77 17 = ((n + 1 : Nat) : Int) := by rw [← hJ]; simp [upd2]
    have j88 : ∀ j, J 88 j = if j = n then c else I 88 j := fun j => by
      have : J 88 j = if j = n then c else I' 88 j := by rw [← hJ]; simp [upd2]
      rw [this, f.1 88 (by decide) (by decide) (by decide) (by decide)]
    have fJ : FrMd I J := ⟨fun id a b => by rw [ji id a (by omega), f.1 id a (by omega) (by omega) (by omega)], fun k hk => by rw [j7 k (by omega), f.2 k (by omega) (by omega) (by omega)]⟩
    obtain ⟨K, ts, eK, eTt, eP, en, eG, hS⟩ := hR
    have kK : KA J 87 K := fun j hj => by rw [ji 87 (by decide) (by decide)]; exact eK j hj
    have kT : KA J 86 u.2 := fun j hj => by rw [ji 86 (by decide) (by decide)]; exact eTt j hj
    have kP : Pst J ts := ⟨by rw [j7 13 (by decide)]; exact eP.1, eP.2.keep (fun j _ => by rw [ji 85 (by decide) (by decide)])⟩
    rw [j7 18 (by decide)]
    refine ⟨fun z => ⟨Or.inr rfl, h1 u hu J fJ j17 j88 ⟨K, ts, kK, kT, kP, en, eG, ?_⟩⟩, fun z => ?_⟩
    · rcases hS with ⟨-, s2, -, -⟩ | hS
      · exact absurd s2 z
      · right
        rw [j7 18 (by decide), j7 19 (by decide)]
        exact hS
    · have z : I' 77 18 = 0 := by simpa using z
      rcases hS with ⟨s1, s2, s3, -⟩ | ⟨-, ⟨-, w, -⟩ | ⟨-, w⟩ | ⟨-, w, -⟩ | ⟨-, w⟩⟩
      · refine R_goesOn ts K J (by omega) kP kK (fun I2 K' ts' a1 a2 a3 a4 a5 a6 a7 => ⟨rfl, Or.inr rfl, h1 u hu I2 ?_ (by rw [a2 17 (by decide)]; exact j17) (fun j => by rw [a1 88 (by decide) (by decide)]; exact j88 j) ⟨K', ts', a4, fun j hj => by rw [a1 86 (by decide) (by decide)]; exact kT j hj, a3, by omega, eG, Or.inl ⟨s1, by rw [a2 18 (by decide), j7 18 (by decide)]; exact z, by rw [s3, a6], a7⟩⟩⟩)
        exact fJ.trans ⟨fun id a b => a1 id a (by omega), fun k hk => a2 k (by omega)⟩
      · omega
      · omega
      · omega
      · omega
  refine t122_0 I _ ⟨fun z => ⟨Or.inl rfl, h0 (rstep_none ?_) I FrMe.rfl'⟩, fun z => ?_⟩
  · unfold pstep
    split
    · rfl
    · rw [pout_big z]
  · obtain ⟨m, f, Gs⟩ := s
    have h' := h
    obtain ⟨K, ts, eK, eTt, eP, en, eG, ⟨s1, s2, s3, s4⟩ | ⟨s3, hM⟩⟩ := h'
    · have s1 : m = 0 := s1
      subst s1
      have s3 : Gs = mdl ts K := s3
      rw [s2]
      refine ⟨fun w => absurd rfl w, fun _ => ⟨fun w => ⟨fun w2 => absurd rfl w2, fun _ => ?_⟩, fun w => ⟨Or.inl rfl, h0 (rstep_none ?_) I FrMe.rfl'⟩⟩⟩
      · refine R_takesPart h ?_ hn q0 q1
        rcases s4 with rfl | ⟨r, rfl⟩
        · rw [eP.1] at w; exact absurd rfl w
        · rw [s3, mdl_0]; simp
      · have : ts = [] := by
          have w : I 77 13 = 0 := by simpa using w
          rw [eP.1] at w
          exact List.length_eq_zero_iff.mp (by omega)
        rw [this] at s3
        unfold pstep
        rw [show ((0, f, Gs) : PS).2.2 = [] from s3]
    · rcases hM with ⟨w, x, -⟩ | ⟨w, x⟩ | ⟨w, x, -⟩ | ⟨w, x⟩
      · have w : m = 1 := w
        subst w
        rw [x]
        exact ⟨fun _ => ⟨fun _ => ⟨fun y => absurd rfl y, fun _ => R_takesName (Or.inl rfl) h hn q0 q1⟩, fun y => absurd (by decide) y⟩, fun y => absurd (by decide) y⟩
      · have w : m = 2 := w
        subst w
        rw [x]
        exact ⟨fun _ => ⟨fun _ => ⟨fun _ => ⟨fun y => absurd rfl y, fun _ => R_takesFunction h hn q0 q1⟩, fun y => absurd (by decide) y⟩, fun y => absurd (by decide) y⟩, fun y => absurd (by decide) y⟩
      · have w : m = 3 := w
        subst w
        rw [x]
        exact ⟨fun _ => ⟨fun _ => ⟨fun y => absurd rfl y, fun _ => R_takesName (Or.inr rfl) h hn q0 q1⟩, fun y => absurd (by decide) y⟩, fun y => absurd (by decide) y⟩
      · have w : m = 4 := w
        subst w
        rw [x]
        exact ⟨fun _ => ⟨fun _ => ⟨fun _ => ⟨fun _ => R_takesCalled h hn q0 q1, fun y => absurd (by decide) y⟩, fun y => absurd (by decide) y⟩, fun y => absurd (by decide) y⟩, fun y => absurd (by decide) y⟩
end Names
