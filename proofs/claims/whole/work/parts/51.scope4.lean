/-! A turn keeps that each open expression sees the names known to it. -/
theorem Kf_same {H : List Hd} (he : ex kE H) (hw : wfa H) {p j : Nat} (hp : p < H.length) (hj : j < pts (lt H p)) (ho : isOpr (lt H p) = true ∨ lt H p = 63 ∨ (lt H p = 58 ∧ j = 0) ∨ lt H p = 33) : Kf H (kp H p j) = Kf H p := by
  obtain ⟨Gs, Ss, -, f2, -, -⟩ := fl_at he hp
  have hk := Kf_kid he hw hp hj f2
  have hl : Ss.length = pts (lt H p) := cs_len f2
  have ho' : isOpr (hdA H p).1 = true ∨ (hdA H p).1 = 63 ∨ ((hdA H p).1 = 58 ∧ j = 0) ∨ (hdA H p).1 = 33 := ho
  rcases cs_cases f2 with ⟨-, rfl⟩ | ⟨-, rfl⟩ | ⟨-, rfl⟩ | ⟨h1, -, rfl⟩ | ⟨h1, -, -, rfl⟩ | ⟨-, -, -, rfl⟩
  · simp at hk
  · simp only [List.length_cons, List.length_nil] at hl
    rcases (by omega : j = 0 ∨ j = 1) with rfl | rfl <;> (simp at hk; exact hk)
  · simp only [List.length_cons, List.length_nil] at hl
    rcases (by omega : j = 0 ∨ j = 1 ∨ j = 2) with rfl | rfl | rfl <;> (simp at hk; exact hk)
  · rcases ho' with h | h | h | h
    · exact absurd h1 (isOpr_not h).2.2.2.2.2.1
    · omega
    · obtain ⟨-, rfl⟩ := h
      simp at hk
      exact hk
    · omega
  · rcases ho' with h | h | h | h
    · exact absurd h1 (isOpr_not h).2.2.2.2.2.2.1
    · omega
    · omega
    · omega
  · simp only [List.length_cons, List.length_nil] at hl
    have : j = 0 := by omega
    subst this
    simp at hk
    exact hk
theorem Kf_bind {H : List Hd} (he : ex kE H) (hw : wfa H) {p : Nat} (hp : p < H.length) (ho : lt H p = 58) : Kf H (kp H p 1) = ins (Kf H p) (nm H p) := by
  obtain ⟨Gs, Ss, -, f2, -, -⟩ := fl_at he hp
  have hk := Kf_kid he hw hp (j := 1) (by rw [ho]; decide) f2
  have ho' : (hdA H p).1 = 58 := ho
  rcases cs_cases f2 with ⟨h1 | h1 | h1, -⟩ | ⟨h1, -⟩ | ⟨h1, -⟩ | ⟨h1, -, rfl⟩ | ⟨h1, -⟩ | ⟨h1, -⟩
  · exact absurd ho' (isDig_not h1).2.2.2.2.2.1
  · exact absurd ho' (isInp_not h1).2.2.2.2.2.1
  · exact absurd ho' (isVal_not h1.1).2.2.2.2.2.1
  · exact absurd ho' (isOpr_not h1).2.2.2.2.2.1
  · omega
  · simp at hk
    exact hk
  · omega
  · omega
theorem Kf_def {H : List Hd} (he : ex kE H) (hw : wfa H) {p : Nat} (hp : p < H.length) (ho : lt H p = 64) : Kf H (kp H p 0) = ins (ins (Kf H p) (nm H p)) (pm H p) ∧ Kf H (kp H p 1) = ins (Kf H p) (nm H p) := by
  obtain ⟨Gs, Ss, -, f2, -, -⟩ := fl_at he hp
  have hk := Kf_kid he hw hp (j := 1) (by rw [ho]; decide) f2
  have hk0 := Kf_kid he hw hp (j := 0) (by rw [ho]; decide) f2
  have ho' : (hdA H p).1 = 64 := ho
  rcases cs_cases f2 with ⟨h1 | h1 | h1, -⟩ | ⟨h1, -⟩ | ⟨h1, -⟩ | ⟨h1, -⟩ | ⟨h1, -, -, rfl⟩ | ⟨h1, -⟩
  · exact absurd ho' (isDig_not h1).2.2.2.2.2.2.1
  · exact absurd ho' (isInp_not h1).2.2.2.2.2.2.1
  · exact absurd ho' (isVal_not h1.1).2.2.2.2.2.2.1
  · exact absurd ho' (isOpr_not h1).2.2.2.2.2.2.1
  · omega
  · omega
  · simp at hk hk0
    exact ⟨hk0, hk⟩
  · omega
/-- what a call finds: the link of its function, told where all its outer names are seen -/
theorem call_link {H : List Hd} (hH : prog H) {σ : Mem} {o L : Nat} (h : SI H σ o L) (hL : L ≤ 300) {p : Nat} (hp : p < H.length) (ho : lt H p = 33) {s : Int} (hs : s < (L : Int)) (hv : Sees H σ p s) :
    ∃ i : Nat, i < L ∧ Vis σ (nm H p) s i ∧ fndF σ (nm H p) 300 s = (i : Int) ∧ σ 34 i = nm H p ∧ Sees H σ (tell H p) (σ 36 i) ∧ ∀ c, ins (Kf H (tell H p)) (nm H p) c = true → ∃ j, Vis σ c (i : Int) j := by
  have hw := prog_wfa hH
  obtain ⟨c1, c2⟩ := call_fun hH.1 hp ho
  obtain ⟨i, hi⟩ := hv _ c2
  obtain ⟨l1, l2⟩ := hi.lt h.1 hs
  have hn := hi.name
  obtain ⟨-, t2, t3, t4⟩ := tell_spec hH.1 hw hp ho
  have hsee : Sees H σ (tell H p) (σ 36 i) := by
    rcases h.2.1 i l2 with q | ⟨p', q1, q2, q3, q4⟩
    · rw [hn] at q
      rw [(isVal_not q).2.2.2.1] at c1
      cases c1
    · have : p' = tell H p := def_uniq hH q1 t2 q2 t3 (by rw [q3, hn, t4])
      rw [← this]
      exact q4
  refine ⟨i, l2, hi, hi.fnd h.1 hL hs 300 (by omega), hn, hsee, fun c hc => ?_⟩
  by_cases e : c = nm H p
  · exact ⟨i, Vis.here i (by rw [hn, e])⟩
  · unfold ins at hc
    simp [e] at hc
    obtain ⟨j, hj⟩ := hsee c hc
    exact ⟨j, Vis.up i j (by rw [hn]; exact fun q => e q.symm) hj⟩
theorem fndF_congr {σ τ : Mem} (e4 : τ 34 = σ 34) (e6 : τ 36 = σ 36) (c : Int) : ∀ n s, fndF τ c n s = fndF σ c n s := by
  intro n
  induction n with
  | zero => intro s; rfl
  | succ n ih =>
    intro s
    unfold fndF
    have r4 : rd τ 34 s = rd σ 34 s := by unfold rd; rw [e4]
    have r6 : rd τ 36 s = rd σ 36 s := by unfold rd; rw [e6]
    rw [r4, r6, ih]
theorem SI.same {H : List Hd} {σ τ : Mem} {o o' L : Nat} (h : SI H σ o L) (ho : o' ≤ o) (e0 : τ 30 = σ 30) (e1 : τ 31 = σ 31) (e4 : τ 34 = σ 34) (e6 : τ 36 = σ 36) : SI H τ o' L :=
  h.keep ho (fun j _ => by rw [e4, e6]; exact ⟨rfl, rfl⟩) (fun d _ => by rw [e0, e1]; exact ⟨rfl, rfl⟩)
theorem Sees.same {H : List Hd} {σ τ : Mem} {q : Nat} {s : Int} {L : Nat} (hl : Low σ L) (hs : s < (L : Int)) (e4 : τ 34 = σ 34) (e6 : τ 36 = σ 36) (h : Sees H σ q s) : Sees H τ q s :=
  h.keep hl (fun j _ => by rw [e4, e6]; exact ⟨rfl, rfl⟩) hs
theorem givF_SI {H : List Hd} {K : Mem} {v : Int} {k L : Nat} (h : SI H K (k + 1) L) (h11 : K 26 11 = ((k + 1 : Nat) : Int)) (h15 : K 26 15 = (L : Int)) : ∃ o' L' : Nat, givF K v 26 11 = (o' : Int) ∧ givF K v 26 15 = (L' : Int) ∧ SI H (givF K v) o' L' := by
  refine ⟨k, L, ?_, ?_, ?_⟩
  · unfold givF
    rw [upd2_at, if_pos ⟨rfl, rfl⟩, h11]
    omega
  · unfold givF
    simp [upd2]
    exact h15
  · have e : ∀ id, id ≠ 26 → givF K v id = K id := fun id hid => by unfold givF; rw [upd2_id hid, upd2_id hid]
    exact h.same (by omega) (e 30 (by decide)) (e 31 (by decide)) (e 34 (by decide)) (e 36 (by decide))
theorem goF_SI {H : List Hd} (hH : prog H) {t : Nat} {I : Mem} {k S L : Nat} (h : MI H t I (k + 1) S L) (hS : SI H I (k + 1) L) :
    goF H I 26 0 = 0 → ∃ o' L' : Nat, goF H I 26 11 = (o' : Int) ∧ goF H I 26 15 = (L' : Int) ∧ SI H (goF H I) o' L' := by
  have hw := prog_wfa hH
  have he := hH.1
  obtain ⟨m1, m2, m3, m4, m5, m6, m7, m8, m9, m10, m11, m12⟩ := id h
  obtain ⟨p, g, a1, a2, a3, a4⟩ := m12 k (by omega)
  have hop : opn I - 1 = k := by unfold opn; rw [m1]; omega
  obtain ⟨s1, s2, s3⟩ := hS.2.2 k (by omega)
  have hsp := s3 p a1
  unfold goF
  rw [hop, a1, a3, toNat_c]
  generalize I 31 k = s at s1 s2 hsp
  generalize hJ : upd2 I 32 k ((g : Int) + 1) = J
  have ej : ∀ id, id ≠ 32 → J id = I id := fun id hid => by rw [← hJ]; exact upd2_id hid
  have j11 : J 26 11 = ((k + 1 : Nat) : Int) := by rw [ej 26 (by decide)]; exact m1
  have j15 : J 26 15 = (L : Int) := by rw [ej 26 (by decide)]; exact m3
  have hSJ : SI H J (k + 1) L := hS.same (Nat.le_refl _) (ej 30 (by decide)) (ej 31 (by decide)) (ej 34 (by decide)) (ej 36 (by decide))
  have hsJ : Sees H J p s := hsp.same hS.1 s2 (ej 34 (by decide)) (ej 36 (by decide))
  have kid : ∀ j, j < pts (lt H p) → (isOpr (lt H p) = true ∨ lt H p = 63 ∨ (lt H p = 58 ∧ j = 0) ∨ lt H p = 33) → Sees H J (kp H p j) s := by
    intro j hj ho c hc
    rw [Kf_same he hw a2 hj ho] at hc
    exact hsJ c hc
  have begJ : ∀ j, j < pts (lt H p) → (isOpr (lt H p) = true ∨ lt H p = 63 ∨ (lt H p = 58 ∧ j = 0) ∨ lt H p = 33) → begF J (kp H p j) s 26 0 = 0 → ∃ o' L' : Nat, begF J (kp H p j) s 26 11 = (o' : Int) ∧ begF J (kp H p j) s 26 15 = (L' : Int) ∧ SI H (begF J (kp H p j) s) o' L' :=
    fun j hj ho hn => hSJ.beg j11 j15 ⟨s1, s2⟩ (kid j hj ho) hn
  have givJ : ∀ v, givF J v 26 0 = 0 → ∃ o' L' : Nat, givF J v 26 11 = (o' : Int) ∧ givF J v 26 15 = (L' : Int) ∧ SI H (givF J v) o' L' := fun v _ => givF_SI hSJ j11 j15
  suffices key : ∀ P : Mem → Prop, (∀ X : Mem, (X 26 0 = 0 → ∃ o' L' : Nat, X 26 11 = (o' : Int) ∧ X 26 15 = (L' : Int) ∧ SI H X o' L') → P X) → P (goG H k p s g J) from key (fun X => X 26 0 = 0 → ∃ o' L' : Nat, X 26 11 = (o' : Int) ∧ X 26 15 = (L' : Int) ∧ SI H X o' L') (fun X hx => hx)
  intro P hP
  unfold goG
  split
  next ho =>
    have hpt : pts (lt H p) = 2 := by simp [pts, ho]
    split
    next g0 => exact hP _ (begJ 0 (by omega) (Or.inl ho))
    next g0 =>
    split
    next g1 =>
      have e33 : ∀ id, id ≠ 33 → upd2 J 33 k (J 26 1) id = J id := fun id hid => upd2_id hid
      refine hP _ (fun hn => ?_)
      exact (hSJ.same (Nat.le_refl _) (e33 30 (by decide)) (e33 31 (by decide)) (e33 34 (by decide)) (e33 36 (by decide))).beg (by rw [e33 26 (by decide)]; exact j11) (by rw [e33 26 (by decide)]; exact j15) ⟨s1, s2⟩ ((kid 1 (by omega) (Or.inl ho)).same hSJ.1 s2 (e33 34 (by decide)) (e33 36 (by decide))) hn
    next g1 => exact hP _ (givJ _)
  next =>
  split
  next ho =>
    have hpt : pts (lt H p) = 3 := by rw [ho]; rfl
    split
    next g0 => exact hP _ (begJ 0 (by omega) (Or.inr (Or.inl ho)))
    next g0 =>
    split
    next g1 =>
      refine hP _ ?_
      split
      · exact begJ 1 (by omega) (Or.inr (Or.inl ho))
      · exact begJ 2 (by omega) (Or.inr (Or.inl ho))
    next g1 => exact hP _ (givJ _)
  next =>
  split
  next ho =>
    have hpt : pts (lt H p) = 2 := by rw [ho]; rfl
    split
    next g0 => exact hP _ (begJ 0 (by omega) (Or.inr (Or.inr (Or.inl ⟨ho, rfl⟩))))
    next g0 =>
    split
    next g1 =>
      refine hP _ (fun hn => ?_)
      have hv : isVal (nm H p) = true := by
        rcases hd_cases he a2 with (q | q | q) | q | q | q | q | q
        · exact absurd ho (isDig_not q).2.2.2.2.2.1
        · exact absurd ho (isInp_not q).2.2.2.2.2.1
        · exact absurd ho (isVal_not q.1).2.2.2.2.2.1
        · exact absurd ho (isOpr_not q).2.2.2.2.2.1
        · omega
        · exact q.2
        · omega
        · omega
      refine (hSJ.lnk j15 ⟨s1, s2⟩ (Or.inl hv)).beg (L := L + 1) (by rw [lnkF_26 (by decide)]; exact j11) (by rw [lnkF_15, j15]; omega) (by rw [j15]; omega) ?_ hn
      intro c hc
      rw [Kf_bind he hw a2 ho] at hc
      exact see_lnk hSJ j15 s2 hsJ c hc
    next g1 => exact hP _ (givJ _)
  next =>
  split
  next ho =>
    have hpt : pts (lt H p) = 2 := by rw [ho]; rfl
    split
    next g0 =>
      refine hP _ (fun hn => ?_)
      refine (hSJ.lnk j15 ⟨s1, s2⟩ (Or.inr ⟨p, a2, ho, rfl, hsJ⟩)).beg (L := L + 1) (by rw [lnkF_26 (by decide)]; exact j11) (by rw [lnkF_15, j15]; omega) (by rw [j15]; omega) ?_ hn
      intro c hc
      rw [(Kf_def he hw a2 ho).2] at hc
      exact see_lnk hSJ j15 s2 hsJ c hc
    next g0 => exact hP _ (givJ _)
  next =>
  split
  next ho =>
    have hpt : pts (lt H p) = 1 := by rw [ho]; rfl
    split
    next g0 => exact hP _ (begJ 0 (by omega) (Or.inr (Or.inr (Or.inr ho))))
    next g0 =>
    split
    next g1 =>
      refine hP _ (fun hn => ?_)
      obtain ⟨-, t2, t3, t4⟩ := tell_spec he hw a2 ho
      generalize hK : cntF (upd2 J 26 3 (J 26 3 + 1)) 1 (wy H p).toNat = K at hn ⊢
      have ek : ∀ id, id ≠ 26 → id ≠ 28 → id ≠ 29 → K id = J id := fun id h1 h2 h3 => by rw [← hK, cntF_id h2 h3, upd2_id h1]
      have ek26 : ∀ r, r ≠ 3 → K 26 r = J 26 r := fun r hr => by rw [← hK, cntF_id (by decide) (by decide), upd2_at, if_neg (fun q => hr q.2)]
      have hSK : SI H K (k + 1) L := hSJ.same (Nat.le_refl _) (ek 30 (by decide) (by decide) (by decide)) (ek 31 (by decide) (by decide) (by decide)) (ek 34 (by decide) (by decide) (by decide)) (ek 36 (by decide) (by decide) (by decide))
      have hsK : Sees H K p s := hsJ.same hSJ.1 s2 (ek 34 (by decide) (by decide) (by decide)) (ek 36 (by decide) (by decide) (by decide))
      have k15 : K 26 15 = (L : Int) := by rw [ek26 15 (by decide)]; exact j15
      obtain ⟨i, i1, -, i3, i4, i5, i6⟩ := call_link hH hSK (by omega) a2 ho s2 hsK
      rw [i3] at hn ⊢
      have hvp : isVal (pm H (tell H p)) = true := (def_fun he t2 t3).2
      refine (hSK.lnk k15 ⟨by omega, by omega⟩ (Or.inl hvp)).beg (L := L + 1) (by rw [lnkF_26 (by decide), ek26 11 (by decide)]; exact j11) (by rw [lnkF_15, k15]; omega) (by rw [j15]; omega) ?_ hn
      intro c hc
      rw [(Kf_def he hw t2 t3).1, t4] at hc
      rw [j15, ← k15]
      exact see_lnk hSK k15 (by omega) i6 c hc
    next g1 =>
      refine hP _ (fun hn => ?_)
      have ec : ∀ id, id ≠ 28 → id ≠ 29 → cntF J (-1) (wy H p).toNat id = J id := fun id h1 h2 => cntF_id h1 h2 _
      exact givF_SI (hSJ.same (Nat.le_refl _) (ec 30 (by decide) (by decide)) (ec 31 (by decide) (by decide)) (ec 34 (by decide) (by decide)) (ec 36 (by decide) (by decide))) (by rw [ec 26 (by decide) (by decide)]; exact j11) (by rw [ec 26 (by decide) (by decide)]; exact j15)
  next => exact hP _ (givJ _)
