/-! run, cost, frames, often, fits. -/
def IsRun (H : List Hd) (x y : Int) (τ : Mem) : Prop := ∃ σ, Start x y σ ∧ τ = runN H 601 (begF σ 0 (-1))
theorem run_ex (H : List Hd) (x y : Int) : ∃ τ, IsRun H x y τ := by
  refine ⟨_, fun a b => if a = 26 ∧ b = 16 then x else if a = 26 ∧ b = 17 then y else 0, ?_, rfl⟩
  unfold Start
  simp
theorem C_exec {H : List Hd} (hH : prog H) {I : Mem} {x y : Int} {Q : Post} (hA : AnaOK I H) (hQ : ∀ I', IsRun H x y I' → (∀ id, (id < 26 ∨ 36 < id) → I' id = I id) → Q none I') :
    R 24 0 [(0, .inr (some 26)), (1, .inr (some 9)), (2, .inr (some 20)), (3, .inl x), (4, .inl y)] [] I Q :=
  R_execute hH hA (fun σ hσ hS => hQ _ ⟨σ, hS, rfl⟩ (fun id hid => by rw [runN_id hid, begF_id hid, hσ id (by omega)]))
theorem M_runs {H : List Hd} (hH : prog H) {I τ : Mem} {x y : Int} {Q : Post} (hA : MAna I H) (hτ : IsRun H x y τ) (hQ : ∀ I', FrM I I' → RunOK τ I' → Q none I') :
    R 168 0 [(0, .inr (some 77)), (1, .inl x), (2, .inl y)] [] I Q := by
  obtain ⟨σ, h1, rfl⟩ := hτ
  exact R_runs hH hA h1 hQ
theorem RelM.frM {I J : Mem} {S : Sta} (h : RelM I S) (e : FrM I J) : RelM J S := h.fr (fun id hid => e.1 id (by omega) (by omega)) (fun k hk => e.2 k (by omega))
theorem FrM.lo {I J : Mem} (h : FrM I J) : FrLo I J := fun id hid => h.1 id (by omega) (by omega)
theorem RelC.frE {I J : Mem} {S : Sta} (h : RelC I S) (e : ∀ id, (id < 26 ∨ 36 < id) → J id = I id) : RelC J S := h.fr (fun id hid => e id (by omega))
def stR (S : Sta) (v : Int) : Sta := (S.1, S.2.1, S.2.2.1, S.2.2.2.1, S.2.2.2.2.1, v)
def vRun (τ : Mem) : Int := if τ 26 0 = 0 then τ 26 1 else 0
def sRun (τ : Mem) : Int := if τ 26 0 = 0 then 0 else 1
def vCost (w : Int) (τ : Mem) : Int := if ¬ (0 ≤ w ∧ w ≤ 2) then -1 else if ¬ τ 26 0 = 0 then -9 else if w = 0 then τ 26 2 else if w = 1 then τ 26 3 else τ 28 0
def vFrames (w : Int) (τ : Mem) : Int := if ¬ (0 ≤ w ∧ w ≤ 2) then -1 else if ¬ τ 26 0 = 0 then -9 else τ 28 w.toNat
def vOften (p : Int) (H : List Hd) (τ : Mem) : Int := if ¬ (0 ≤ p ∧ p < (H.length : Int)) then -1 else if ¬ τ 26 0 = 0 then -9 else τ 27 p.toNat
section Runs
variable {I : Mem} {S : Sta} {Q : Post}
theorem RelC.st (h : RelC I S) {v : Int} : RelC (upd2 I 0 14 v) (stR S v) := by
  obtain ⟨h1, h2, h3, h4, h5, h6, h7⟩ := id h
  have ji : ∀ id, id ≠ 0 → upd2 I 0 14 v id = I id := fun id a => upd2_id a
  have j0 : ∀ k, k ≠ 14 → upd2 I 0 14 v 0 k = I 0 k := fun k a => by rw [upd2_at, if_neg (fun q => a q.2)]
  exact ⟨h1.fr (ji 7 (by decide)) (ji 8 (by decide)), h2.fr (fun id a b => ji id (by omega)), h3.fr (fun id a b => ji id (by omega)), h4.fr (fun id a b => ji id (by omega)), ⟨by rw [j0 1 (by decide)]; exact h5.1, fun j hj => by rw [ji 1 (by decide)]; exact h5.2 j hj⟩, ⟨by rw [j0 13 (by decide)]; exact h6.1, fun j hj => by rw [ji 75 (by decide), ji 76 (by decide)]; exact h6.2 j hj⟩, by simp [upd2, stR]⟩
theorem RelM.st (h : RelM I S) {v : Int} : RelM (upd2 I 77 9 v) (stR S v) := by
  obtain ⟨h1, h2, h3, h4, h5, h6, h7⟩ := id h
  have ji : ∀ id, id ≠ 77 → upd2 I 77 9 v id = I id := fun id a => upd2_id a
  have j7 : ∀ k, k ≠ 9 → upd2 I 77 9 v 77 k = I 77 k := fun k a => by rw [upd2_at, if_neg (fun q => a q.2)]
  exact ⟨h1.fr' (fun id hid => ji id (by omega)) (j7 20 (by decide)), ⟨by rw [ji 79 (by decide)]; exact h2.1, by rw [ji 79 (by decide)]; exact h2.2⟩, h3.fr (j7 5 (by decide)) (ji 80 (by decide)), h4.fr (ji 81 (by decide)) (ji 82 (by decide)), ⟨by rw [j7 2 (by decide)]; exact h5.1, fun j hj => by rw [ji 78 (by decide)]; exact h5.2 j hj⟩, ⟨by rw [j7 11 (by decide)]; exact h6.1, fun j hj => by rw [ji 84 (by decide)]; exact h6.2 j hj⟩, by simp [upd2, stR]⟩
theorem C_run (hG : Good S) (h : RelC I S) (hQ : ∀ τ I', IsRun S.1.1 S.1.2.1 S.1.2.2 τ → RelC I' (stR S (sRun τ)) → FrHi I I' → Q (some (.inl (vRun τ))) I') : R 87 0 [(0, .inr (some 0))] [] I Q := by
  refine t87_0 I ?_
  rw [h.1.2.2.1, h.1.2.2.2]
  refine C_exec hG.1 h.2.1 (fun I1 hr f => ⟨rfl, ?_⟩)
  have hQ := fun I' => hQ I1 I' hr
  have h1 := h.frE f
  have e26 : ∀ v k, upd2 I1 0 14 v 26 k = I1 26 k := fun v k => by rw [upd2_id (by decide)]
  have fh : ∀ v, FrHi I (upd2 I1 0 14 v) := fun v id hid => by rw [upd2_id (by omega), f id (by omega)]
  dsimp only
  refine ⟨fun z => ?_, fun z => ?_⟩
  · have es : sRun I1 = 0 := by unfold sRun; rw [if_pos z]
    have ev : vRun I1 = I1 26 1 := by unfold vRun; rw [if_pos z]
    rw [es, ev] at hQ
    rw [e26, e26]
    exact ⟨fun _ => hQ _ h1.st (fh 0), fun y => absurd z y⟩
  · have es : sRun I1 = 1 := by unfold sRun; rw [if_neg z]
    have ev : vRun I1 = 0 := by unfold vRun; rw [if_neg z]
    rw [es, ev] at hQ
    rw [e26]
    exact ⟨fun y => absurd y z, fun _ => hQ _ h1.st (fh 1)⟩
theorem M_run {τ : Mem} (hG : Good S) (h : RelM I S) (hτ : IsRun S.1.1 S.1.2.1 S.1.2.2 τ) (hQ : ∀ I', RelM I' (stR S (sRun τ)) → FrLo I I' → Q (some (.inl (vRun τ))) I') : R 169 0 [(0, .inr (some 77))] [] I Q := by
  refine t169_0 I ?_
  dsimp only
  have h0 := h.thr (v := 0)
  have f0 := thr_lo (I := I) (v := 0)
  generalize upd2 I 77 0 0 = K at h0 f0 ⊢
  have e1 : K 79 (61 : Int).toNat = S.1.2.1 := h0.2.1.1
  have e2 : K 79 (62 : Int).toNat = S.1.2.2 := h0.2.1.2
  rw [e1, e2]
  refine ⟨inb_nat (i := 61) (by omega), inb_nat (i := 62) (by omega), M_runs hG.1 h0.1 hτ (fun I1 f1 ok => ⟨rfl, ?_⟩)⟩
  have h1 := h0.frM f1
  have fl : ∀ v, FrLo I (upd2 I1 77 9 v) := fun v id hid => by rw [upd2_id (by omega), f1.lo id hid, f0 id hid]
  have e77 : ∀ v k, k ≠ 9 → upd2 I1 77 9 v 77 k = I1 77 k := fun v k hk => by rw [upd2_at, if_neg (fun q => hk q.2)]
  rw [ok.1]
  refine ⟨fun z => ?_, fun z => ?_⟩
  · have es : sRun τ = 0 := by unfold sRun; rw [if_pos z]
    have ev : vRun τ = τ 26 1 := by unfold vRun; rw [if_pos z]
    rw [es, ev] at hQ
    rw [e77 0 44 (by decide), e77 0 45 (by decide), ok.1, (ok.2.2 z).1]
    exact ⟨fun _ => hQ _ h1.st (fl 0), fun y => absurd z y⟩
  · have es : sRun τ = 1 := by unfold sRun; rw [if_neg z]
    have ev : vRun τ = 0 := by unfold vRun; rw [if_neg z]
    rw [es, ev] at hQ
    rw [e77 1 44 (by decide), ok.1]
    exact ⟨fun y => absurd y z, fun _ => hQ _ h1.st (fl 1)⟩
theorem C_cost {w : Int} (hG : Good S) (h : RelC I S) (hQ : ∀ τ I', IsRun S.1.1 S.1.2.1 S.1.2.2 τ → RelC I' S → FrHi I I' → Q (some (.inl (vCost w τ))) I') : R 89 0 [(0, .inr (some 0)), (1, .inl w)] [] I Q := by
  obtain ⟨τ0, ht0⟩ := run_ex S.1.1 S.1.2.1 S.1.2.2
  have bad : ¬ (0 ≤ w ∧ w ≤ 2) → Q (some (.inl (-1))) I := by
    intro z
    have := hQ τ0 I ht0 h (fun _ _ => rfl)
    unfold vCost at this
    rw [if_pos z] at this
    exact this
  refine t89_0 I _ ⟨fun z => bad (by omega), fun z => ⟨fun z2 => ?_, fun z2 => bad (by omega)⟩⟩
  rw [h.1.2.2.1, h.1.2.2.2]
  refine C_exec hG.1 h.2.1 (fun I1 hr f => ⟨rfl, ?_⟩)
  have hq := hQ I1 I1 hr (h.frE f) (fun id hid => f id (by omega))
  unfold vCost at hq
  rw [if_neg (by omega)] at hq
  refine ⟨fun a => ⟨fun b => ?_, fun b => ⟨fun c => ?_, fun c => ?_⟩⟩, fun a => ?_⟩
  · rw [if_neg (fun y => y a), if_pos b] at hq; exact hq
  · rw [if_neg (fun y => y a), if_neg b, if_pos c] at hq; exact hq
  · rw [if_neg (fun y => y a), if_neg b, if_neg c] at hq
    have : rd I1 28 0 = I1 28 0 := rd_nat (i := 0) (by rw [sz28]; omega)
    rw [this]; exact hq
  · rw [if_pos a] at hq; exact hq
theorem M_cost {τ : Mem} {w : Int} (hG : Good S) (h : RelM I S) (hτ : IsRun S.1.1 S.1.2.1 S.1.2.2 τ) (hQ : ∀ I', RelM I' S → FrLo I I' → Q (some (.inl (vCost w τ))) I') : R 171 0 [(0, .inr (some 77)), (1, .inl w)] [] I Q := by
  unfold vCost at hQ
  refine t171_0 I _ ?_
  dsimp only
  have h0 := h.thr (v := 0)
  have f0 := thr_lo (I := I) (v := 0)
  generalize upd2 I 77 0 0 = K at h0 f0 ⊢
  have e1 : K 79 (61 : Int).toNat = S.1.2.1 := h0.2.1.1
  have e2 : K 79 (62 : Int).toNat = S.1.2.2 := h0.2.1.2
  rw [e1, e2]
  refine ⟨fun z => ⟨inb_nat (i := 61) (by omega), inb_nat (i := 62) (by omega), M_runs hG.1 h0.1 hτ (fun I1 f1 ok => ⟨rfl, ?_⟩)⟩, fun z => ?_⟩
  · have z := inI_iff.mp (nob2i.mp z)
    have hq := hQ I1 (h0.frM f1) (fun id hid => by rw [f1.lo id hid, f0 id hid])
    rw [if_neg (by omega)] at hq
    rw [ok.1]
    refine ⟨fun a => ⟨fun b => ⟨fun c => ?_, fun c => ?_⟩, fun b => ?_⟩, fun a => ?_⟩
    · rw [if_neg (fun y => y a), if_neg b, if_neg c] at hq; rw [(ok.2.2 a).2.2.2.1]; exact hq
    · rw [if_neg (fun y => y a), if_neg b, if_pos (by simpa using c)] at hq; rw [(ok.2.2 a).2.2.1]; exact hq
    · rw [if_neg (fun y => y a), if_pos (by simpa using b)] at hq; rw [(ok.2.2 a).2.1]; exact hq
    · rw [if_pos a] at hq; exact hq
  · have hq := hQ K h0 f0
    rw [if_pos (fun y => z (nob2i.mpr (inI_iff.mpr y)))] at hq
    exact hq
theorem C_frames {w : Int} (hG : Good S) (h : RelC I S) (hQ : ∀ τ I', IsRun S.1.1 S.1.2.1 S.1.2.2 τ → RelC I' S → FrHi I I' → Q (some (.inl (vFrames w τ))) I') : R 90 0 [(0, .inr (some 0)), (1, .inl w)] [] I Q := by
  obtain ⟨τ0, ht0⟩ := run_ex S.1.1 S.1.2.1 S.1.2.2
  have bad : ¬ (0 ≤ w ∧ w ≤ 2) → Q (some (.inl (-1))) I := by
    intro z
    have := hQ τ0 I ht0 h (fun _ _ => rfl)
    unfold vFrames at this
    rw [if_pos z] at this
    exact this
  refine t90_0 I _ ⟨fun z => bad (by omega), fun z => ⟨fun z2 => ?_, fun z2 => bad (by omega)⟩⟩
  rw [h.1.2.2.1, h.1.2.2.2]
  refine C_exec hG.1 h.2.1 (fun I1 hr f => ⟨rfl, ?_⟩)
  have hq := hQ I1 I1 hr (h.frE f) (fun id hid => f id (by omega))
  unfold vFrames at hq
  rw [if_neg (by omega)] at hq
  refine ⟨fun a => ?_, fun a => ?_⟩
  · rw [if_neg (fun y => y a)] at hq
    rw [show w = ((w.toNat : Nat) : Int) by omega, rd_nat (by rw [sz28]; omega)]; exact hq
  · rw [if_pos a] at hq; exact hq
theorem M_frames {τ : Mem} {w : Int} (hG : Good S) (h : RelM I S) (hτ : IsRun S.1.1 S.1.2.1 S.1.2.2 τ) (hQ : ∀ I', RelM I' S → FrLo I I' → Q (some (.inl (vFrames w τ))) I') : R 172 0 [(0, .inr (some 77)), (1, .inl w)] [] I Q := by
  unfold vFrames at hQ
  refine t172_0 I _ ?_
  dsimp only
  have h0 := h.thr (v := 0)
  have f0 := thr_lo (I := I) (v := 0)
  generalize upd2 I 77 0 0 = K at h0 f0 ⊢
  have e1 : K 79 (61 : Int).toNat = S.1.2.1 := h0.2.1.1
  have e2 : K 79 (62 : Int).toNat = S.1.2.2 := h0.2.1.2
  rw [e1, e2]
  refine ⟨fun z => ⟨inb_nat (i := 61) (by omega), inb_nat (i := 62) (by omega), M_runs hG.1 h0.1 hτ (fun I1 f1 ok => ⟨rfl, ?_⟩)⟩, fun z => ?_⟩
  · have z := inI_iff.mp (nob2i.mp z)
    have hq := hQ I1 (h0.frM f1) (fun id hid => by rw [f1.lo id hid, f0 id hid])
    rw [if_neg (by omega)] at hq
    rw [ok.1]
    refine ⟨fun a => ⟨⟨by omega, by omega⟩, ?_⟩, fun a => ?_⟩
    · rw [if_neg (fun y => y a)] at hq; rw [(ok.2.2 a).2.2.2.2.2 _ (by omega)]; exact hq
    · rw [if_pos a] at hq; exact hq
  · have hq := hQ K h0 f0
    rw [if_pos (fun y => z (nob2i.mpr (inI_iff.mpr y)))] at hq
    exact hq
theorem C_often {p : Int} (hG : Good S) (h : RelC I S) (hQ : ∀ τ I', IsRun S.1.1 S.1.2.1 S.1.2.2 τ → RelC I' S → FrHi I I' → Q (some (.inl (vOften p S.1.1 τ))) I') : R 91 0 [(0, .inr (some 0)), (1, .inl p)] [] I Q := by
  have h60 := prog_60 hG.1
  obtain ⟨τ0, ht0⟩ := run_ex S.1.1 S.1.2.1 S.1.2.2
  have bad : ¬ (0 ≤ p ∧ p < (S.1.1.length : Int)) → Q (some (.inl (-1))) I := by
    intro z
    have := hQ τ0 I ht0 h (fun _ _ => rfl)
    unfold vOften at this
    rw [if_pos z] at this
    exact this
  refine t91_0 I _ ?_
  rw [show I 9 0 = (S.1.1.length : Int) from h.2.1.1.1]
  refine ⟨fun z => ?_, fun z => bad (fun y => z (nob2i.mpr (inI_iff.mpr ⟨y.1, by omega⟩)))⟩
  have z := inI_iff.mp (nob2i.mp z)
  rw [h.1.2.2.1, h.1.2.2.2]
  refine C_exec hG.1 h.2.1 (fun I1 hr f => ⟨rfl, ?_⟩)
  have hq := hQ I1 I1 hr (h.frE f) (fun id hid => f id (by omega))
  unfold vOften at hq
  rw [if_neg (by omega)] at hq
  refine ⟨fun a => ?_, fun a => ?_⟩
  · rw [if_neg (fun y => y a)] at hq
    rw [show p = ((p.toNat : Nat) : Int) by omega, rd_nat (by rw [sz27]; omega)]; exact hq
  · rw [if_pos a] at hq; exact hq
theorem M_often {τ : Mem} {p : Int} (hG : Good S) (h : RelM I S) (hτ : IsRun S.1.1 S.1.2.1 S.1.2.2 τ) (hQ : ∀ I', RelM I' S → FrLo I I' → Q (some (.inl (vOften p S.1.1 τ))) I') : R 173 0 [(0, .inr (some 77)), (1, .inl p)] [] I Q := by
  have h60 := prog_60 hG.1
  have hl := prog_pos hG.1
  unfold vOften at hQ
  refine t173_0 I _ ?_
  dsimp only
  have h0 := h.thr (v := 0)
  have f0 := thr_lo (I := I) (v := 0)
  generalize upd2 I 77 0 0 = K at h0 f0 ⊢
  have e1 : K 79 (61 : Int).toNat = S.1.2.1 := h0.2.1.1
  have e2 : K 79 (62 : Int).toNat = S.1.2.2 := h0.2.1.2
  have e20 : K 77 20 = (S.1.1.length : Int) := h0.1.1.1.2.1
  rw [e1, e2, e20, wrap_of (by omega) (by omega)]
  refine ⟨fun z => ⟨inb_nat (i := 61) (by omega), inb_nat (i := 62) (by omega), M_runs hG.1 h0.1 hτ (fun I1 f1 ok => ⟨rfl, ?_⟩)⟩, fun z => ?_⟩
  · have z := inI_iff.mp (nob2i.mp z)
    have hq := hQ I1 (h0.frM f1) (fun id hid => by rw [f1.lo id hid, f0 id hid])
    rw [if_neg (by omega)] at hq
    rw [ok.1]
    refine ⟨fun a => ⟨⟨by omega, by omega⟩, ?_⟩, fun a => ?_⟩
    · rw [if_neg (fun y => y a)] at hq; rw [(ok.2.2 a).2.2.2.2.1 _ (by omega)]; exact hq
    · rw [if_pos a] at hq; exact hq
  · have hq := hQ K h0 f0
    rw [if_pos (fun y => z (nob2i.mpr (inI_iff.mpr ⟨y.1, by omega⟩)))] at hq
    exact hq
end Runs
