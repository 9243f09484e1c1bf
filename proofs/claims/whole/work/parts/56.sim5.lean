/-! The model's turn and run against the pure machine. -/
theorem goes_sim {H : List Hd} (hH : prog H) {σ I : Mem} {t k S L : Nat} {Q : Post} (hA : MAna I H) (hMI : MI H t σ (k + 1) S L) (h0 : σ 26 0 = 0) (hSI : SI H σ (k + 1) L) (hRM : RM H σ I (k + 1) L) (hv : σ 32 k ≠ 0 → I 77 45 = σ 26 1)
    (hQ : ∀ J', TP H (goF H σ) I J' → Q none J') : R 167 0 [(0, .inr (some 77))] [] I Q := by
  have hw := prog_wfa hH
  obtain ⟨m1, m2, m3, m4, m5, m6, m7, m8, m9, m10, m11, m12⟩ := id hMI
  obtain ⟨p, g, a1, a2, a3, a4⟩ := m12 k (by omega)
  have hop : opn σ - 1 = k := by unfold opn; rw [m1]; omega
  obtain ⟨s1, s2, s3⟩ := hSI.2.2 k (by omega)
  have hsp := s3 p a1
  unfold goF at hQ
  rw [hop, a1, a3, toNat_c] at hQ
  obtain ⟨rS, rO, rL, rF⟩ := id hRM
  obtain ⟨r1, r2, r3, r4⟩ := rO k (by omega)
  rw [a3] at r2
  rw [a1] at r1
  generalize hse : σ 31 k = s at s1 s2 hsp hQ r3
  generalize hK : upd2 σ 32 k ((g : Int) + 1) = K at hQ
  have ek : ∀ id, id ≠ 32 → K id = σ id := fun id hid => by rw [← hK]; exact upd2_id hid
  have k32 : ∀ d, K 32 d = if d = k then (g : Int) + 1 else σ 32 d := fun d => by rw [← hK, upd2_at]; by_cases hd : d = k <;> simp [hd]
  have e39 : wrap (I 77 39 - 1) = (k : Int) := by rw [rS.1, wrap_pred (by omega)]
  refine t167_0 I ?_
  rw [e39, toNat_c, r1, r2, wrap_of (x := (g : Int) + 1) (by omega) (by omega)]
  obtain ⟨l1, l2⟩ := hA.let_ hH a2
  rw [l2]
  have kc : inb (k : Int) 100 := inb_nat (by omega)
  refine ⟨kc, l1, kc, kc, ?_⟩
  generalize hJ : upd2 I 102 k ((g : Int) + 1) = J
  have ej : ∀ id, id ≠ 102 → J id = I id := fun id hid => by rw [← hJ]; exact upd2_id hid
  have j102 : ∀ d, J 102 d = if d = k then (g : Int) + 1 else I 102 d := fun d => by rw [← hJ, upd2_at]; by_cases hd : d = k <;> simp [hd]
  have fr : FrM I J := ⟨fun id a b => ej id (by omega), fun r _ => by rw [ej 77 (by decide)]⟩
  have hAJ := hA.frM fr
  have hMT : MT H K J k p s g L := by
    refine ⟨?_, fun d hd => ?_, rL.congr (ek 34 (by decide)) (ek 35 (by decide)) (ek 36 (by decide)) (ej 105 (by decide)) (ej 106 (by decide)) (ej 107 (by decide)), rF.congr (ek 28 (by decide)) (ek 29 (by decide)) (by rw [ej 77 (by decide)]) (by rw [ej 77 (by decide)]) (ej 109 (by decide)) (ej 110 (by decide)), ⟨?_, ?_, ?_, ?_, ?_, ?_⟩, ?_, ?_, ⟨?_, ?_, ?_, by omega, by omega, a2, a4⟩, ?_, ?_, ?_, ?_, hAJ, ?_, ?_, ⟨s1, s2⟩⟩
    · unfold RS
      rw [ek 26 (by decide), ek 27 (by decide), ej 77 (by decide), ej 108 (by decide)]
      exact rS
    · rw [ek 30 (by decide), ek 31 (by decide), ek 33 (by decide), k32, if_neg (by omega), ej 101 (by decide), j102, if_neg (by omega), ej 103 (by decide), ej 104 (by decide)]
      exact rO d (by omega)
    · rw [ej 101 (by decide)]; exact r1
    · rw [ek 30 (by decide)]; exact a1
    · rw [j102, if_pos rfl]
    · rw [k32, if_pos rfl]
    · rw [ej 103 (by decide)]; exact r3
    · rw [ek 31 (by decide)]; exact hse
    · intro hg ho
      rw [ej 104 (by decide), ek 33 (by decide)]
      exact r4 p a1 ho (by rw [a3, hg]; rfl)
    · intro hg
      rw [ej 77 (by decide), ek 26 (by decide)]
      exact hv (by rw [a3]; omega)
    · rw [ek 26 (by decide)]; exact h0
    · rw [ek 26 (by decide)]; exact m1
    · rw [ek 26 (by decide)]; exact m3
    · rw [ek 26 (by decide)]; omega
    · intro r hr
      rw [ek 27 (by decide)]
      have := m10 r hr
      omega
    · rw [ek 26 (by decide)]; omega
    · intro r hr
      rw [ek 29 (by decide)]
      have := m11 r hr
      omega
    · exact hSI.same (Nat.le_refl _) (ek 30 (by decide)) (ek 31 (by decide)) (ek 34 (by decide)) (ek 36 (by decide))
    · exact hsp.same hSI.1 s2 (ek 34 (by decide)) (ek 36 (by decide))
  have hQ' : ∀ J', TP H (goG H k p s (g : Int) K) J J' → Q none J' := fun J' h => hQ J' (h.fr fr)
  dsimp only
  rw [b2i_0]
  unfold goG at hQ'
  refine ⟨fun c1 => ?_, fun c1 => ?_⟩
  · rw [if_neg (by rw [c1]; decide)] at hQ'
    refine ⟨fun c2 => ?_, fun c2 => ?_⟩
    · rw [if_neg c2] at hQ'
      refine ⟨fun c3 => ?_, fun c3 => ?_⟩
      · rw [if_neg c3] at hQ'
        refine ⟨fun c4 => ?_, fun c4 => ?_⟩
        · rw [if_neg c4] at hQ'
          refine ⟨fun c5 => ?_, fun c5 => ?_⟩
          · rw [if_neg c5] at hQ'
            rw [b2i_0]
            refine ⟨fun c6 => ⟨fun c7 => ⟨fun c8 => ⟨kc, ?_⟩, fun c8 => ?_⟩, fun c7 => ?_⟩, fun c6 => ?_⟩
            · rw [if_neg (by rw [c6]; decide), if_neg c7, if_neg c8] at hQ'
              have hvl : isVal (lt H p) = true ∧ Kf H p (lt H p) = true := by
                rcases hd_cases hH.1 a2 with (q | q | q) | q | q | q | q | q
                · rw [c6] at q; cases q
                · simp [isInp] at q
                  rcases q with q | q
                  · exact absurd q c7
                  · exact absurd q c8
                · exact q
                · rw [c1] at q; cases q
                · exact absurd q c2
                · exact absurd q.1 c3
                · exact absurd q.1 c4
                · exact absurd q.1 c5
              obtain ⟨-, -, hLK, -, -, -, -, ⟨-, -, -, c14, -⟩, -, -, -, -, -, hSK, hSeK, -⟩ := id hMT
              obtain ⟨i, hi⟩ := hSeK _ hvl.2
              obtain ⟨i1, i2⟩ := hi.lt hSK.1 s2
              have hfn := hi.fnd hSK.1 (by omega) s2 300 (by omega)
              have h34 := hi.name
              rw [hfn, rd_nat (by rw [sz35]; omega)] at hQ'
              rw [ej 103 (by decide), r3]
              refine R_found hSK.1 (by omega) hLK hi s2 rfl ⟨_, rfl, inb_nat (by omega), ?_⟩
              rw [toNat_c, (hLK i i2).2.2.1 (by rw [h34]; exact hvl.1)]
              exact hMT.giv hQ'
            · rw [if_neg (by rw [c6]; decide), if_neg c7, if_pos (by simpa using c8)] at hQ'
              have e : J 77 54 = K 26 17 := hMT.1.2.2.2.2.2.2.1
              rw [e]
              exact hMT.giv hQ'
            · rw [if_neg (by rw [c6]; decide), if_pos (by simpa using c7)] at hQ'
              have e : J 77 53 = K 26 16 := hMT.1.2.2.2.2.2.1
              rw [e]
              exact hMT.giv hQ'
            · have c6 : isDig (lt H p) = true := by simpa using c6
              rw [if_pos c6] at hQ'
              have : 48 ≤ lt H p ∧ lt H p ≤ 57 := by simpa [isDig] using c6
              rw [wrap_of (x := lt H p - 48) (by omega) (by omega)]
              exact hMT.giv hQ'
          · have c5 : lt H p = 33 := by simpa using c5
            rw [if_pos c5] at hQ'
            exact R_goesCall hH hMT c5 (fun J' h => ⟨rfl, hQ' J' h⟩)
        · have c4 : lt H p = 64 := by simpa using c4
          rw [if_pos c4] at hQ'
          exact R_goesTold hH hMT c4 (fun J' h => ⟨rfl, hQ' J' h⟩)
      · have c3 : lt H p = 58 := by simpa using c3
        rw [if_pos c3] at hQ'
        exact R_goesNamed hH hMT c3 (fun J' h => ⟨rfl, hQ' J' h⟩)
    · have c2 : lt H p = 63 := by simpa using c2
      rw [if_pos c2] at hQ'
      exact R_goesChoice hH hMT c2 (fun J' h => ⟨rfl, hQ' J' h⟩)
  · have c1 : isOpr (lt H p) = true := by simpa using c1
    rw [if_pos c1] at hQ'
    exact R_goesSum hH hMT c1 (fun J' h => ⟨rfl, hQ' J' h⟩)
/-- what a run shows -/
def RunOK (τ I : Mem) : Prop := I 77 44 = τ 26 0 ∧ (τ 26 0 = 0 ∨ τ 26 0 = 1) ∧ (τ 26 0 = 0 → I 77 45 = τ 26 1 ∧ I 77 46 = τ 26 2 ∧ I 77 47 = τ 26 3 ∧ I 77 49 = τ 28 0 ∧ (∀ r, r < 60 → I 108 r = τ 27 r) ∧ (∀ r, r < 3 → I 110 r = τ 28 r))
theorem runN_stop {H : List Hd} {n : Nat} {σ : Mem} (h : σ 26 11 ≤ 0 ∨ σ 26 0 = 1) : runN H n σ = σ := by
  cases n with
  | zero => rfl
  | succ n =>
    unfold runN
    by_cases h1 : σ 26 11 ≤ 0
    · rw [if_pos h1]
    · rw [if_neg h1, if_pos (by omega)]
theorem runs_loop {H : List Hd} (hH : prog H) {Q : Post} : ∀ (n t : Nat) (σ I : Mem), n + t = 601 → MAna I H →
    ((σ 26 0 = 1 ∧ I 77 44 = 1) ∨ (σ 26 0 = 0 ∧ ∃ o S L, MI H t σ o S L ∧ SI H σ o L ∧ RM H σ I o L ∧ (o = 0 ∨ σ 32 (o - 1) ≠ 0 → I 77 45 = σ 26 1))) →
    (∀ I', FrM I I' → RunOK (runN H n σ) I' → Q none I') → R 168 100 [(0, .inr (some 77))] [] I Q := by
  intro n
  induction n with
  | zero =>
    intro t σ I ht hA hst hQ
    rcases hst with ⟨h1, h2⟩ | ⟨h1, o, S, L, hM, -⟩
    · have hfin := hQ I FrM.rfl' ⟨by rw [runN_stop (Or.inr h1), h1, h2], by rw [runN_stop (Or.inr h1)]; exact Or.inr h1, fun q => by rw [runN_stop (Or.inr h1)] at q; omega⟩
      exact t168_100 I ⟨fun _ => hfin, fun _ => ⟨fun _ => hfin, fun q => absurd (by omega) q⟩⟩
    · obtain ⟨m1, m2, m3, m4, m5, m6, m7, -⟩ := hM
      omega
  | succ n ih =>
    intro t σ I ht hA hst hQ
    rcases hst with ⟨h1, h2⟩ | ⟨h1, o, S, L, hM, hSI, hRM, hv⟩
    · have hfin := hQ I FrM.rfl' ⟨by rw [runN_stop (Or.inr h1), h1, h2], by rw [runN_stop (Or.inr h1)]; exact Or.inr h1, fun q => by rw [runN_stop (Or.inr h1)] at q; omega⟩
      exact t168_100 I ⟨fun _ => hfin, fun _ => ⟨fun _ => hfin, fun q => absurd (by omega) q⟩⟩
    · have h39 := hRM.1.1
      have h44 := hRM.1.2.2.1
      have h11 := hM.1
      rcases Nat.eq_zero_or_pos o with ho | ho
      · subst ho
        have hs : runN H (n + 1) σ = σ := runN_stop (Or.inl (by omega))
        rw [hs] at hQ
        refine t168_100 I ⟨fun _ => hQ I FrM.rfl' ⟨by omega, Or.inl h1, fun _ => ⟨hv (Or.inl rfl), hRM.1.2.2.2.1, hRM.1.2.2.2.2.1, hRM.2.2.2.2.1, hRM.1.2.2.2.2.2.2.2, fun r hr => (hRM.2.2.2.2.2 r hr).2.1⟩⟩, fun q => absurd (by omega) q⟩
      · obtain ⟨k, rfl⟩ : ∃ k, o = k + 1 := ⟨o - 1, by omega⟩
        refine t168_100 I ⟨fun q => by omega, fun _ => ⟨fun q => absurd h44 q, fun _ => ?_⟩⟩
        have hrun : runN H (n + 1) σ = runN H n (goF H σ) := by
          show (if σ 26 11 ≤ 0 then σ else if ¬ σ 26 0 = 0 then σ else runN H n (goF H σ)) = _
          rw [if_neg (by omega), if_neg (by omega)]
        rw [hrun] at hQ
        refine goes_sim hH hA hM h1 hSI hRM (fun q => hv (Or.inr q)) (fun J' hT => ⟨rfl, ?_⟩)
        refine ih (t + 1) _ J' (by omega) (hA.frM hT.1) ?_ (fun I' hF hfin => hQ I' (hT.1.trans hF) hfin)
        rcases hT.2 with hl | ⟨hl, o', L', e1, e2, hR', hv'⟩
        · exact Or.inl hl
        · right
          refine ⟨hl, ?_⟩
          rcases goF_MI hH hM h1 with r | ⟨o2, S2, L2, r1, r2⟩
          · omega
          · obtain ⟨o3, L3, r3, r4, r5⟩ := goF_SI hH hM hSI hl
            have q1 := r2.1
            have q2 := r2.2.2.1
            have z1 : o2 = o' := by omega
            have z2 : L2 = L' := by omega
            have z3 : o3 = o' := by omega
            have z4 : L3 = L' := by omega
            subst z1 z2 z3 z4
            exact ⟨_, S2, _, r2, r5, hR', hv'⟩
