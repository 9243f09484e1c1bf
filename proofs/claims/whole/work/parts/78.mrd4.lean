/-! The model's reader: a whole text. -/
/-- what the reading of a text leaves as it was -/
def FrMt (I I' : Mem) : Prop := (∀ id, id ≠ 77 → (id < 85 ∨ 88 < id) → I' id = I id) ∧ (∀ k, k ≠ 0 → (k < 13 ∨ 19 < k) → I' 77 k = I 77 k)
theorem FrMe.md {I I' : Mem} (h : FrMe I I') : FrMd I I' := ⟨fun id a b => h.1 id a (by omega) (by omega) (by omega), fun k hk => h.2 k (by omega) (by omega) (by omega)⟩
theorem mread_loop {l : List Int} (hl : l.length ≤ 60) {I0 : Mem} (hT0 : Txt I0 78 l) (h2l : I0 77 2 = (l.length : Int)) {E : Option Nat} {Q : Post} (h1 : ∀ e : Nat, E = some e → ∀ I', FrMd I0 I' → Q (some (.inl (-10 - (e : Int)))) I')
    (h2 : E = none → ∀ I', FrMd I0 I' → I' 77 17 = ((nb l).length : Int) → Txt I' 88 (nb l) → R 135 0 [(0, .inr (some 77))] [] I' (fun r1 I1 => r1 = none ∧ (R 123 127 [(0, .inr (some 77)), (1, .inl 0)] [] I1 Q))) :
    ∀ (d i : Nat) (s : PS) (T : KS) (I : Mem), i + d = l.length → MRg nrm I s T (nb (l.take i)).length → I 77 17 = ((nb (l.take i)).length : Int) → Txt I 88 (nb (l.take i)) → FrMd I0 I → rerr (l.drop i) s T i = E →
      R 123 56 [(0, .inr (some 77)), (1, .inl (i : Int))] [] I Q := by
  intro d
  induction d with
  | zero =>
    intro i s T I hi hC e1 e3 hF hE
    have : i = l.length := by omega
    subst this
    rw [List.take_length] at e1 e3
    rw [List.drop_length] at hE
    unfold rerr at hE
    have e2 : I 77 2 = (l.length : Int) := by rw [hF.2 2 (by omega)]; exact h2l
    have werr : wrap (-10 - (l.length : Int)) = -10 - (l.length : Int) := wrap_of (by omega) (by omega)
    obtain ⟨K, ts, -, -, eP, -, -, ⟨s1, s2, s3, s4⟩ | ⟨s3, hM⟩⟩ := hC
    · rcases s4 with rfl | ⟨r, rfl⟩
      · rw [s3] at hE
        refine t123_56 I _ ⟨fun _ => ⟨fun z => absurd z (by rw [s2]; decide), fun _ => ⟨fun _ => h2 (by rw [← hE]; rfl) I hF e1 e3, fun z => absurd (by rw [eP.1]; decide) z⟩⟩, fun z => absurd (by rw [e2]; omega) z⟩
      · rw [s3, mdl_0] at hE
        have := h1 l.length (by rw [← hE]; rfl) I hF
        refine t123_56 I _ ⟨fun _ => ⟨fun z => absurd z (by rw [s2]; decide), fun _ => ⟨fun z => absurd z (by rw [eP.1]; simp only [List.length_cons]; omega), fun _ => ?_⟩⟩, fun z => absurd (by rw [e2]; omega) z⟩
        rw [e2, werr]
        exact this
    · rw [s3] at hE
      have := h1 l.length (by rw [← hE]; rfl) I hF
      have h18 : 0 < I 77 18 := by rcases hM with ⟨-, x, -⟩ | ⟨-, x⟩ | ⟨-, x, -⟩ | ⟨-, x⟩ <;> omega
      refine t123_56 I _ ⟨fun _ => ⟨fun _ => ?_, fun z => absurd h18 z⟩, fun z => absurd (by rw [e2]; omega) z⟩
      rw [e2, werr]
      exact this
  | succ d ih =>
    intro i s T I hi hC e1 e3 hF hE
    have hil : i < l.length := by omega
    have e2 : I 77 2 = (l.length : Int) := by rw [hF.2 2 (by omega)]; exact h2l
    have hnl : (nb (l.take i)).length ≤ i := by
      have := nb_len (l.take i)
      rw [List.length_take] at this
      omega
    have ec : I 78 i = l.getD i 0 := by rw [hF.1 78 (by decide) (by omega)]; exact hT0 i hil
    rw [drop_cons_l l i hil] at hE
    unfold rerr at hE
    have et := take_succ_l l i hil
    refine t123_56 I _ ⟨fun z => absurd z (by rw [e2]; omega), fun _ => ⟨inb_nat (by omega), ?_⟩⟩
    rw [toNat_c, ec]
    refine ⟨fun z => ?_, fun z => ⟨inb_nat (by omega), ?_⟩⟩
    · rw [if_pos z] at hE
      have enb : nb (l.take (i + 1)) = nb (l.take i) := by rw [et, nb_app, z, nb_32, List.append_nil]
      rw [wrap_succ (by omega)]
      exact ih (i + 1) s T I (by omega) (by rw [enb]; exact hC) (by rw [enb]; exact e1) (by rw [enb]; exact e3) hF hE
    · rw [if_neg z] at hE
      refine R_mtakes hC (by omega) e1 (fun hn I' f => ⟨_, rfl, fun w => absurd rfl w, fun _ => ?_⟩) (fun u hu I' f g17 g88 c => ⟨_, rfl, fun _ => ?_, fun w => absurd (by decide) w⟩)
      · rw [hn] at hE
        rw [wrap_of (x := -10 - (i : Int)) (by omega) (by omega)]
        exact h1 i hE.symm I' (hF.trans f.md)
      · rw [hu] at hE
        rw [wrap_succ (by omega)]
        have enb : nb (l.take (i + 1)) = nb (l.take i) ++ [l.getD i 0] := by rw [et, nb_app, nb_one z]
        have elen : (nb (l.take (i + 1))).length = (nb (l.take i)).length + 1 := by rw [enb, List.length_append]; rfl
        refine ih (i + 1) u.1 u.2 I' (by omega) (by rw [elen]; exact c) (by rw [g17, elen]) (fun j hj => ?_) (hF.trans f) hE
        rw [enb, g88, getD_app]
        by_cases hj2 : j = (nb (l.take i)).length
        · rw [if_pos hj2, if_neg (by omega), hj2, Nat.sub_self]; rfl
        · rw [elen] at hj
          rw [if_neg hj2, if_pos (by omega)]
          exact e3 j (by omega)
theorem mclear_loop {I0 : Mem} {Q : Post} (hQ : ∀ I : Mem, (∀ id, id ≠ 86 → id ≠ 87 → I id = I0 id) → KA I 86 kE → KA I 87 kE → R 123 22 [(0, .inr (some 77)), (1, .inl ((128 : Nat) : Int))] [] I Q) :
    ∀ (d f : Nat) (I : Mem), f + d = 128 → (∀ id, id ≠ 86 → id ≠ 87 → I id = I0 id) → (∀ r, r < f → I 86 r = 0 ∧ I 87 r = 0) → R 123 22 [(0, .inr (some 77)), (1, .inl (f : Int))] [] I Q := by
  intro d
  induction d with
  | zero =>
    intro f I hf hF hD
    have hf : f = 128 := by omega
    subst hf
    exact hQ I hF (fun j hj => (hD j hj).1) (fun j hj => (hD j hj).2)
  | succ d ih =>
    intro f I hf hF hD
    refine t123_22 I _ ⟨fun h => absurd h (by omega), fun _ => ⟨inb_nat (by omega), Or.inl rfl, inb_nat (by omega), Or.inl rfl, ?_⟩⟩
    rw [toNat_c, wrap_succ (by omega)]
    refine ih (f + 1) _ (by omega) (fun id h1 h2 => by rw [upd2_id h2, upd2_id h1]; exact hF id h1 h2) (fun g hg => ?_)
    rw [upd2_id (show 86 ≠ 87 by decide), upd2_at, upd2_at, upd2_id (show 87 ≠ 86 by decide)]
    by_cases hgf : g = f
    · simp [hgf]
    · simp [hgf]
      exact hD g (by omega)
theorem R_mread {l : List Int} (hl : l.length ≤ 60) {I : Mem} (hT : Txt I 78 l) (h2l : I 77 2 = (l.length : Int)) {Q : Post} (h1 : ∀ e : Nat, rerr l (0, 0, [kE]) kE 0 = some e → ∀ I', FrMt I I' → Q (some (.inl (-10 - (e : Int)))) I')
    (h2 : rerr l (0, 0, [kE]) kE 0 = none → ∀ I', FrMt I I' → I' 77 17 = ((nb l).length : Int) → Txt I' 88 (nb l) → R 135 0 [(0, .inr (some 77))] [] I' (fun r1 I1 => r1 = none ∧ (R 123 127 [(0, .inr (some 77)), (1, .inl 0)] [] I1 Q))) :
    R 123 0 [(0, .inr (some 77))] [] I Q := by
  refine t123_0 I ?_
  dsimp only
  generalize hJ : upd2 (upd2 (upd2 (upd2 I 77 0 0) 77 13 0) 77 17 0) 77 18 0 = J
  have ji : ∀ id, id ≠ 77 → J id = I id := fun id h => by rw [← hJ, upd2_id h, upd2_id h, upd2_id h, upd2_id h]
  have j7 : ∀ k, k ≠ 0 → k ≠ 13 → k ≠ 17 → k ≠ 18 → J 77 k = I 77 k := fun k a b c d => by rw [← hJ]; simp [upd2, a, b, c, d]
  have js : J 77 13 = 0 ∧ J 77 17 = 0 ∧ J 77 18 = 0 := by rw [← hJ]; simp [upd2]
  obtain ⟨q13, q17, q18⟩ := js
  refine mclear_loop (I0 := J) (fun I1 f1 t1 k1 => ?_) 128 0 J (by omega) (fun _ _ _ => rfl) (fun r hr => absurd hr (by omega))
  have e77 : I1 77 = J 77 := f1 77 (by decide) (by decide)
  have hP : Pst I1 [] := ⟨by rw [e77, q13]; rfl, trivial⟩
  obtain ⟨a1, a2, a3, a4⟩ := push_ok (t := 0) hP (by simp) (Or.inl rfl)
  refine t123_22 I1 _ ⟨fun _ => ⟨a1, ?_⟩, fun z => absurd (by decide) z⟩
  dsimp only
  generalize upd2 (upd2 I1 85 (I1 77 13).toNat 0) 77 13 (wrap (I1 77 13 + 1)) = M at a2 a3 a4 ⊢
  have m7 : ∀ k, k ≠ 13 → M 77 k = J 77 k := fun k a => by rw [a4 k a, e77]
  have fM : FrMt I M := ⟨fun id a b => by rw [a3 id a (by omega), f1 id (by omega) (by omega), ji id a], fun k a b => by rw [m7 k (by omega), j7 k a (by omega) (by omega) (by omega)]⟩
  have hC : MRg nrm M (0, 0, [kE]) kE (nb (l.take 0)).length := by
    refine ⟨kE, [0], fun j hj => by rw [a3 87 (by decide) (by decide)]; exact k1 j hj, fun j hj => by rw [a3 86 (by decide) (by decide)]; exact t1 j hj, a2, by simp [nb], fun G hG c hc => ?_, Or.inl ⟨rfl, by rw [m7 18 (by decide)]; exact q18, ?_, Or.inr ⟨[], rfl⟩⟩⟩
    · have hG : G ∈ [kE] := hG
      simp at hG
      rw [hG] at hc
      cases hc
    · show [kE] = mdl [0] kE
      rw [mdl_0]; rfl
  exact mread_loop hl (I0 := M) (fun j hj => by rw [fM.1 78 (by decide) (by omega)]; exact hT j hj) (by rw [fM.2 2 (by decide) (by omega)]; exact h2l) (fun e he I' f => h1 e he I' ⟨fun id a b => (f.1 id a b).trans (fM.1 id a b), fun k a b => (f.2 k b).trans (fM.2 k a b)⟩) (fun he I' f => h2 he I' ⟨fun id a b => (f.1 id a b).trans (fM.1 id a b), fun k a b => (f.2 k b).trans (fM.2 k a b)⟩) l.length 0 _ _ M (by omega) hC (by rw [m7 17 (by decide), q17]; rfl) (fun j hj => absurd hj (by simp [nb])) FrMd.rfl' rfl
