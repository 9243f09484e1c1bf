/-! The class's reader: a whole text. -/
def FrRd (I I' : Mem) : Prop := ∀ id, (id < 2 ∨ 6 < id) → I' id = I id
theorem take_succ_l (l : List Int) (i : Nat) (h : i < l.length) : l.take (i + 1) = l.take i ++ [l.getD i 0] := by
  rw [List.take_succ, List.getElem?_eq_getElem h, List.getD_eq_getElem?_getD, List.getElem?_eq_getElem h]
  rfl
theorem drop_cons_l (l : List Int) (i : Nat) (h : i < l.length) : l.drop i = l.getD i 0 :: l.drop (i + 1) := by
  rw [List.drop_eq_getElem_cons h, List.getD_eq_getElem?_getD, List.getElem?_eq_getElem h]
  rfl
theorem nb_one {c : Int} (h : c ≠ 32) : nb [c] = [c] := by simp [nb, h]
theorem nb_32 : nb [32] = [] := by simp [nb]
theorem fault_loop {l : List Int} (hl : l.length ≤ 60) {I0 : Mem} (hT0 : Txt I0 1 l) {E : Option Nat} {Q : Post} (h1 : ∀ e : Nat, E = some e → ∀ I', FrRd I0 I' → Q (some (.inl (e : Int))) I') (h2 : E = none → ∀ I', FrRd I0 I' → I' 2 1 = ((nb l).length : Int) → Txt I' 3 (nb l) → Q (some (.inl (-1))) I') :
    ∀ (d i : Nat) (s : PS) (T : KS) (I : Mem), i + d = l.length → CR I s T (nb (l.take i)).length → I 2 1 = ((nb (l.take i)).length : Int) → Txt I 3 (nb (l.take i)) → FrRd I0 I → rerr (l.drop i) s T i = E →
      R 40 32 [(0, .inr (some 2)), (1, .inr (some 1)), (2, .inl (l.length : Int)), (3, .inl (i : Int))] [] I Q := by
  intro d
  induction d with
  | zero =>
    intro i s T I hi hC e1 e3 hF hE
    have : i = l.length := by omega
    subst this
    rw [List.take_length] at e1 e3
    rw [List.drop_length] at hE
    unfold rerr at hE
    obtain ⟨x, t, st, -, -, -, -, -, -, -, ⟨g1, g2, -⟩ | ⟨g1, g2, g3, -⟩⟩ := hC
    · rw [g1] at hE
      refine t40_32 I _ _ ⟨fun _ => ⟨fun z => absurd g2 z, fun _ => h2 (by rw [← hE]; rfl) I hF e1 e3⟩, fun z => absurd (Int.le_refl _) z⟩
    · rw [g3] at hE
      refine t40_32 I _ _ ⟨fun _ => ⟨fun _ => h1 l.length (by rw [← hE]; rfl) I hF, fun z => absurd (fun w => by rw [g1] at w; omega) z⟩, fun z => absurd (Int.le_refl _) z⟩
  | succ d ih =>
    intro i s T I hi hC e1 e3 hF hE
    have hil : i < l.length := by omega
    have hnl : (nb (l.take i)).length ≤ i := by
      have := nb_len (l.take i)
      rw [List.length_take] at this
      omega
    have ec : rd I 1 (i : Int) = l.getD i 0 := by rw [rd_nat (by rw [sz1]; omega), hF 1 (by omega)]; exact hT0 i hil
    rw [drop_cons_l l i hil] at hE
    unfold rerr at hE
    have et := take_succ_l l i hil
    refine t40_32 I _ _ ⟨fun z => absurd z (by omega), fun _ => ?_⟩
    rw [ec]
    refine ⟨fun z => ?_, fun z => ?_⟩
    · rw [if_neg z] at hE
      refine R_takes hC (by omega) (fun hn I' f => ⟨_, rfl, fun w => absurd rfl w, fun _ => ?_⟩) (fun u hu I' f c => ⟨_, rfl, fun _ => ?_, fun w => absurd (by decide) w⟩)
      · rw [hn] at hE
        exact h1 i hE.symm I' (fun id hid => by rw [f.1 id (by omega) (by omega) (by omega) (by omega)]; exact hF id hid)
      · rw [hu] at hE
        dsimp only
        have l1 : I' 2 1 = ((nb (l.take i)).length : Int) := by rw [f.2]; exact e1
        rw [l1, wr_nat (id := 3) (by rw [sz3]; omega), upd2_id (show 2 ≠ 3 by decide), l1, wrap_succ (by omega), wrap_succ (by omega)]
        generalize hJ : upd2 (upd2 I' 3 (nb (l.take i)).length (l.getD i 0)) 2 1 (((nb (l.take i)).length + 1 : Nat) : Int) = J
        have j2 : ∀ r, r ≠ 1 → J 2 r = I' 2 r := fun r hr => by rw [← hJ, upd2_at, if_neg (fun w => hr w.2), upd2_id (by decide)]
        have ji : ∀ id, id ≠ 2 → id ≠ 3 → J id = I' id := fun id a b => by rw [← hJ, upd2_id a, upd2_id b]
        have j1 : J 2 1 = (((nb (l.take i)).length + 1 : Nat) : Int) := by rw [← hJ]; simp [upd2]
        have j3 : ∀ j, J 3 j = if j = (nb (l.take i)).length then l.getD i 0 else I' 3 j := fun j => by rw [← hJ]; simp [upd2]
        have enb : nb (l.take (i + 1)) = nb (l.take i) ++ [l.getD i 0] := by rw [et, nb_app, nb_one z]
        have elen : (nb (l.take (i + 1))).length = (nb (l.take i)).length + 1 := by rw [enb, List.length_append]; rfl
        refine ih (i + 1) u.1 u.2 J (by omega) ?_ (by rw [j1, elen]) (fun j hj => ?_) (fun id hid => by rw [ji id (by omega) (by omega), f.1 id (by omega) (by omega) (by omega) (by omega)]; exact hF id hid) hE
        · rw [elen]
          obtain ⟨x, t, st, a1, a2, a3, a4, a5, a6, a7, a8⟩ := c
          refine ⟨x, t, st, by rw [j2 7 (by decide)]; exact a1, by rw [j2 8 (by decide)]; exact a2, by rw [j2 5 (by decide)]; exact a3, a4.keep (fun id hid j _ => by rw [ji id (by omega) (by omega)]), a5, a6, a7, ?_⟩
          rw [j2 6 (by decide), j2 9 (by decide)]
          exact a8
        · rw [enb, j3, getD_app]
          by_cases hj2 : j = (nb (l.take i)).length
          · rw [if_pos hj2, if_neg (by omega), hj2, Nat.sub_self]; rfl
          · rw [elen] at hj
            rw [if_neg hj2, if_pos (by omega), f.1 3 (by decide) (by decide) (by decide) (by decide)]
            exact e3 j (by omega)
    · have z : l.getD i 0 = 32 := by simpa using z
      rw [if_pos z] at hE
      have enb : nb (l.take (i + 1)) = nb (l.take i) := by rw [et, nb_app, z, nb_32, List.append_nil]
      rw [wrap_succ (by omega)]
      exact ih (i + 1) s T I (by omega) (by rw [enb]; exact hC) (by rw [enb]; exact e1) (by rw [enb]; exact e3) hF hE
theorem R_fault {l : List Int} (hl : l.length ≤ 60) {I : Mem} (hT : Txt I 1 l) {Q : Post} (h1 : ∀ e : Nat, rerr l (0, 0, [kE]) kE 0 = some e → ∀ I', FrRd I I' → Q (some (.inl (e : Int))) I') (h2 : rerr l (0, 0, [kE]) kE 0 = none → ∀ I', FrRd I I' → I' 2 1 = ((nb l).length : Int) → Txt I' 3 (nb l) → Q (some (.inl (-1))) I') :
    R 40 0 [(0, .inr (some 2)), (1, .inr (some 1)), (2, .inl (l.length : Int))] [] I Q := by
  refine t40_0 I _ ?_
  dsimp only
  generalize hJ : upd2 (upd2 (upd2 (upd2 (upd2 (upd2 I 2 1 0) 2 5 0) 2 6 0) 2 7 0) 2 8 0) 2 9 0 = J
  have ji : ∀ id, id ≠ 2 → J id = I id := fun id h => by rw [← hJ, upd2_id h, upd2_id h, upd2_id h, upd2_id h, upd2_id h, upd2_id h]
  have js : J 2 1 = 0 ∧ J 2 5 = 0 ∧ J 2 6 = 0 ∧ J 2 7 = 0 ∧ J 2 8 = 0 := by rw [← hJ]; simp [upd2]
  obtain ⟨q1, q5, q6, q7, q8⟩ := js
  have hf : FrRd I J := fun id hid => ji id (by omega)
  have hC : CR J (0, 0, [kE]) kE (nb (l.take 0)).length := by
    refine ⟨0, 0, [], q7, q8, q5, trivial, kb_0, Nat.zero_le _, fun G hG c hc => ?_, Or.inr ⟨q6, by show (0 : Nat) ≤ 4; omega, ?_, fun z => absurd z (by show ¬ ((0 : Nat) = 3); omega)⟩⟩
    · have hG : G ∈ [kE] := hG
      simp at hG
      rw [hG] at hc
      cases hc
    · show [kE] = kb 0 :: dlI [] 0
      rw [kb_0]
      rfl
  exact fault_loop hl (I0 := J) (fun j hj => by rw [ji 1 (by decide)]; exact hT j hj) (fun e he I' f => h1 e he I' (fun id hid => (f id hid).trans (hf id hid))) (fun he I' f => h2 he I' (fun id hid => (f id hid).trans (hf id hid))) l.length 0 _ _ J (by omega) hC q1 (fun j hj => absurd hj (by simp [nb])) (fun _ _ => rfl) rfl
