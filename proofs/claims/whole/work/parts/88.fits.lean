/-! fits. -/
def Ok1 (H : List Hd) (x y v : Int) : Prop := ∃ τ, IsRun H x y τ ∧ τ 26 0 = 0 ∧ τ 26 1 = v
def No1 (H : List Hd) (x y v : Int) : Prop := ∃ τ, IsRun H x y τ ∧ ¬ (τ 26 0 = 0 ∧ τ 26 1 = v)
def Agr (H : List Hd) (k : Nat) (ys vs : Nat → Int) (x : Int) (b : Bool) : Prop := (b = true ∧ ∀ i, i < k → Ok1 H x (ys i) (vs i)) ∨ (b = false ∧ ∃ i, i < k ∧ No1 H x (ys i) (vs i) ∧ ∀ j, j < i → Ok1 H x (ys j) (vs j))
def mask (f : Nat → Bool) : Nat → Int
  | 0 => 0
  | n + 1 => if f n = true then ior (mask f n) (ishl 1 (n : Int)) else mask f n
theorem mask_congr {f g : Nat → Bool} : ∀ n, (∀ i, i < n → f i = g i) → mask f n = mask g n := by
  intro n
  induction n with
  | zero => intro _; rfl
  | succ n ih =>
    intro h
    unfold mask
    rw [h n (by omega), ih (fun i hi => h i (by omega))]
theorem mask_32 (f : Nat → Bool) : ∀ n, ∃ m : Int32, mask f n = m.toInt := by
  intro n
  induction n with
  | zero => exact ⟨0, rfl⟩
  | succ n ih =>
    unfold mask
    split
    · exact ⟨_, rfl⟩
    · exact ih
theorem mask_or0 (f : Nat → Bool) (n : Nat) : ior (mask f n) 0 = mask f n := by
  obtain ⟨m, hm⟩ := mask_32 f n
  rw [hm, show (0 : Int) = (0 : Int32).toInt from rfl, toInt_or, or_0]
section Fits
variable {I : Mem} {S : Sta} {Q : Post}
theorem R_agrees {x : Int} (hG : Good S) (h : RelC I S) (hQ : ∀ b I', Agr S.1.1 S.2.2.2.2.1.1 S.2.2.2.2.1.2.1 S.2.2.2.2.1.2.2 x b → (∀ id, (id < 26 ∨ 36 < id) → I' id = I id) → Q (some (.inl (b2i b))) I') : R 102 0 [(0, .inr (some 0)), (1, .inl x)] [] I Q := by
  have hk := hG.2.2.2.2.2
  refine t102_0 I _ ?_
  have loop : ∀ (d i : Nat) (J : Mem), i + d = S.2.2.2.2.1.1 → (∀ id, (id < 26 ∨ 36 < id) → J id = I id) → (∀ j, j < i → Ok1 S.1.1 x (S.2.2.2.2.1.2.1 j) (S.2.2.2.2.1.2.2 j)) → R 102 2 [(0, .inr (some 0)), (1, .inl x), (2, .inl (i : Int))] [] J Q := by
    intro d
    induction d with
    | zero =>
      intro i J hi hF hOk
      have e13 : J 0 13 = (S.2.2.2.2.1.1 : Int) := by rw [hF 0 (by omega)]; exact h.2.2.2.2.2.1.1
      exact t102_2 J _ _ ⟨fun _ => ⟨Or.inr rfl, hQ true J (Or.inl ⟨rfl, fun j hj => hOk j (by omega)⟩) hF⟩, fun z => absurd (by rw [e13]; omega) z⟩
    | succ d ih =>
      intro i J hi hF hOk
      have hJ := h.frE hF
      have e13 : J 0 13 = (S.2.2.2.2.1.1 : Int) := hJ.2.2.2.2.2.1.1
      have r75 : rd J 75 (i : Int) = S.2.2.2.2.1.2.1 i := by rw [rd_nat (by show _ < 3; omega)]; exact (hJ.2.2.2.2.2.1.2 i (by omega)).1
      refine t102_2 J _ _ ⟨fun z => absurd z (by rw [e13]; omega), fun _ => ?_⟩
      rw [r75]
      refine C_exec hG.1 hJ.2.1 (fun I1 hr f => ⟨rfl, ?_⟩)
      have hF1 : ∀ id, (id < 26 ∨ 36 < id) → I1 id = I id := fun id hid => by rw [f id hid, hF id hid]
      have r76 : rd I1 76 (i : Int) = S.2.2.2.2.1.2.2 i := by rw [rd_nat (by show _ < 3; omega), f 76 (by omega)]; exact (hJ.2.2.2.2.2.1.2 i (by omega)).2
      rw [r76]
      have no : ¬ (I1 26 0 = 0 ∧ I1 26 1 = S.2.2.2.2.1.2.2 i) → Q (some (.inl 0)) I1 := fun z => hQ false I1 (Or.inr ⟨rfl, i, by omega, ⟨I1, hr, z⟩, hOk⟩) hF1
      refine ⟨fun z => ⟨Or.inl rfl, no (fun y => z y.1)⟩, fun z => ⟨fun z2 => ?_, fun z2 => ⟨Or.inl rfl, no (fun y => z2 y.2)⟩⟩⟩
      rw [wrap_succ (by omega)]
      refine ih (i + 1) I1 (by omega) hF1 (fun j hj => ?_)
      by_cases hji : j = i
      · subst hji
        exact ⟨I1, hr, by simpa using z, z2⟩
      · exact hOk j (by omega)
  exact loop S.2.2.2.2.1.1 0 I (by omega) (fun _ _ => rfl) (fun j hj => absurd hj (by omega))
theorem C_fits (hG : Good S) (h : RelC I S) (hQ : ∀ (f : Nat → Bool) I', (∀ x : Nat, x < 10 → Agr S.1.1 S.2.2.2.2.1.1 S.2.2.2.2.1.2.1 S.2.2.2.2.1.2.2 (x : Int) (f x)) → RelC I' S → FrHi I I' → Q (some (.inl (mask f 10))) I') : R 96 0 [(0, .inr (some 0))] [] I Q := by
  refine t96_0 I ?_
  have loop : ∀ (d j : Nat) (f : Nat → Bool) (J : Mem), j + d = 10 → (∀ id, (id < 26 ∨ 36 < id) → J id = I id) → (∀ x : Nat, x < j → Agr S.1.1 S.2.2.2.2.1.1 S.2.2.2.2.1.2.1 S.2.2.2.2.1.2.2 (x : Int) (f x)) → R 96 4 [(0, .inr (some 0)), (1, .inl (mask f j)), (2, .inl (j : Int))] [] J Q := by
    intro d
    induction d with
    | zero =>
      intro j f J hj hF hA
      have : j = 10 := by omega
      subst this
      exact t96_4 J _ _ ⟨fun _ => hQ f J hA (h.frE hF) (fun id hid => hF id (by omega)), fun z => absurd (by decide) z⟩
    | succ d ih =>
      intro j f J hj hF hA
      refine t96_4 J _ _ ⟨fun z => absurd z (by omega), fun _ => R_agrees hG (h.frE hF) (fun b I1 ha f1 => ⟨_, rfl, ?_⟩)⟩
      have hF1 : ∀ id, (id < 26 ∨ 36 < id) → I1 id = I id := fun id hid => by rw [f1 id hid, hF id hid]
      have next := ih (j + 1) (fun x => if x = j then b else f x) I1 (by omega) hF1 (fun x hx => by
        by_cases e : x = j
        · subst e; simp; exact ha
        · simp [e]; exact hA x (by omega))
      have em : mask (fun x => if x = j then b else f x) j = mask f j := by
        refine mask_congr j (fun i hi => ?_)
        have hne : i ≠ j := by omega
        simp [hne]
      have es : mask (fun x => if x = j then b else f x) (j + 1) = if b = true then ior (mask f j) (ishl 1 (j : Int)) else mask f j := by
        show (if (if j = j then b else f j) = true then ior (mask (fun x => if x = j then b else f x) j) (ishl 1 (j : Int)) else mask (fun x => if x = j then b else f x) j) = _
        rw [em, if_pos rfl]
      rw [es] at next
      rw [wrap_succ (by omega)]
      refine ⟨fun z => ?_, fun z => ?_⟩
      · rw [b2i_0] at z
        rw [if_neg (by rw [z]; decide)] at next
        exact next
      · rw [if_pos (nob2i.mp z)] at next
        exact next
  exact loop 10 0 (fun _ => false) I (by omega) (fun _ _ => rfl) (fun x hx => absurd hx (by omega))
theorem R_isSo {x : Int} {i : Nat} {τ : Mem} (hG : Good S) (h : RelM I S) (hi : i < S.2.2.2.2.1.1) (hτ : IsRun S.1.1 x (S.2.2.2.2.1.2.1 i) τ) (hQ : ∀ I', FrM I I' → Q (some (.inl (if τ 26 0 = 0 ∧ τ 26 1 = S.2.2.2.2.1.2.2 i then 1 else 0))) I') : R 176 0 [(0, .inr (some 77)), (1, .inl x), (2, .inl (i : Int))] [] I Q := by
  have hk := hG.2.2.2.2.2
  have e2 : wrap (2 * (i : Int)) = ((2 * i : Nat) : Int) := by rw [wrap_of (by omega) (by omega)]; omega
  refine t176_0 I _ _ ?_
  rw [e2, toNat_c, (h.2.2.2.2.2.1.2 i hi).1]
  refine ⟨inb_nat (by omega), M_runs hG.1 h.1 hτ (fun I1 f ok => ⟨rfl, ?_⟩)⟩
  have hQ := hQ I1 f
  have e84 : I1 84 (2 * i + 1) = S.2.2.2.2.1.2.2 i := by rw [f.1 84 (by decide) (by omega)]; exact (h.2.2.2.2.2.1.2 i hi).2
  rw [ok.1, wrap_succ (by omega), toNat_c, e84]
  refine ⟨fun z => ⟨Or.inl rfl, ?_⟩, fun z => ?_⟩
  · rw [if_neg (fun y => z y.1)] at hQ; exact hQ
  · have z : τ 26 0 = 0 := by simpa using z
    rw [(ok.2.2 z).1]
    refine ⟨inb_nat (by omega), fun z2 => ⟨Or.inl rfl, ?_⟩, fun z2 => ⟨Or.inr rfl, ?_⟩⟩
    · rw [if_neg (fun y => z2 y.2)] at hQ; exact hQ
    · rw [if_pos ⟨z, by simpa using z2⟩] at hQ; exact hQ
theorem M_fits {f : Nat → Bool} (hG : Good S) (h : RelM I S) (hA : ∀ x : Nat, x < 10 → Agr S.1.1 S.2.2.2.2.1.1 S.2.2.2.2.1.2.1 S.2.2.2.2.1.2.2 (x : Int) (f x)) (hQ : ∀ I', RelM I' S → FrLo I I' → Q (some (.inl (mask f 10))) I') : R 177 0 [(0, .inr (some 77))] [] I Q := by
  have hk := hG.2.2.2.2.2
  refine t177_0 I ?_
  dsimp only
  have h0 := h.thr (v := 0)
  have f0 := thr_lo (I := I) (v := 0)
  generalize upd2 I 77 0 0 = K at h0 f0 ⊢
  have loop : ∀ (d j : Nat) (J : Mem), j + d = 10 → FrM K J → R 177 9 [(0, .inr (some 77)), (1, .inl (mask f j)), (2, .inl (j : Int))] [] J Q := by
    intro d
    induction d with
    | zero =>
      intro j J hj hF
      have : j = 10 := by omega
      subst this
      exact t177_9 J _ _ ⟨fun _ => hQ J (h0.frM hF) (fun id hid => by rw [hF.lo id hid, f0 id hid]), fun z => absurd (by decide) z⟩
    | succ d ih =>
      intro j J hj hF
      refine t177_9 J _ _ ⟨fun z => absurd z (by omega), fun _ => ?_⟩
      have es : mask f (j + 1) = if f j = true then ior (mask f j) (ishl 1 (j : Int)) else mask f j := rfl
      -- the end of the inner loop
      have fin : ∀ (J' : Mem) (b : Int) (i : Nat), FrM K J' → i = S.2.2.2.2.1.1 → (b = 0 ↔ f j = false) → R 177 20 [(0, .inr (some 77)), (1, .inl (mask f j)), (2, .inl (j : Int)), (3, .inl b), (4, .inl (i : Int))] [] J' Q := by
        intro J' b i hF' hi hb
        have e11 : J' 77 11 = (S.2.2.2.2.1.1 : Int) := (h0.frM hF').2.2.2.2.2.1.1
        have next := ih (j + 1) J' (by omega) hF'
        rw [es] at next
        refine t177_20 J' _ _ _ _ ⟨fun _ => ?_, fun z => absurd (by rw [e11]; omega) z⟩
        rw [wrap_succ (by omega)]
        refine ⟨fun z => ?_, fun z => ?_⟩
        · rw [if_neg (by rw [hb.mp z]; decide)] at next
          rw [mask_or0]
          exact next
        · rw [if_pos (by
            cases hf : f j with
            | true => rfl
            | false => exact absurd (hb.mpr hf) z)] at next
          exact next
      -- once it is not
      have nots : f j = false → ∀ (e i : Nat) (J' : Mem), i + e = S.2.2.2.2.1.1 → FrM K J' → R 177 20 [(0, .inr (some 77)), (1, .inl (mask f j)), (2, .inl (j : Int)), (3, .inl 0), (4, .inl (i : Int))] [] J' Q := by
        intro hf e
        induction e with
        | zero => intro i J' hi hF'; exact fin J' 0 i hF' (by omega) ⟨fun _ => hf, fun _ => rfl⟩
        | succ e ihe =>
          intro i J' hi hF'
          have e11 : J' 77 11 = (S.2.2.2.2.1.1 : Int) := (h0.frM hF').2.2.2.2.2.1.1
          refine t177_20 J' _ _ _ _ ⟨fun z => absurd z (by rw [e11]; omega), fun _ => ⟨fun _ => ?_, fun z => absurd rfl z⟩⟩
          rw [wrap_succ (by omega)]
          exact ihe (i + 1) J' (by omega) hF'
      -- one step
      have step : ∀ (i : Nat) (J' : Mem) (τ : Mem), i < S.2.2.2.2.1.1 → FrM K J' → IsRun S.1.1 (j : Int) (S.2.2.2.2.1.2.1 i) τ → ((τ 26 0 = 0 ∧ τ 26 1 = S.2.2.2.2.1.2.2 i) → ∀ J2, FrM K J2 → R 177 20 [(0, .inr (some 77)), (1, .inl (mask f j)), (2, .inl (j : Int)), (3, .inl 1), (4, .inl ((i + 1 : Nat) : Int))] [] J2 Q) → (¬ (τ 26 0 = 0 ∧ τ 26 1 = S.2.2.2.2.1.2.2 i) → ∀ J2, FrM K J2 → R 177 20 [(0, .inr (some 77)), (1, .inl (mask f j)), (2, .inl (j : Int)), (3, .inl 0), (4, .inl ((i + 1 : Nat) : Int))] [] J2 Q) → R 177 20 [(0, .inr (some 77)), (1, .inl (mask f j)), (2, .inl (j : Int)), (3, .inl 1), (4, .inl (i : Int))] [] J' Q := by
        intro i J' τ hi hF' hτ g1 g2
        have hJ' := h0.frM hF'
        have e11 : J' 77 11 = (S.2.2.2.2.1.1 : Int) := hJ'.2.2.2.2.2.1.1
        refine t177_20 J' _ _ _ _ ⟨fun z => absurd z (by rw [e11]; omega), fun _ => ⟨fun z => absurd z (by decide), fun _ => R_isSo hG hJ' hi hτ (fun J2 f2 => ⟨_, rfl, ?_⟩)⟩⟩
        rw [wrap_succ (by omega)]
        by_cases hc : τ 26 0 = 0 ∧ τ 26 1 = S.2.2.2.2.1.2.2 i
        · rw [if_pos hc]
          exact ⟨fun z => absurd z (by decide), fun _ => g1 hc J2 (hF'.trans f2)⟩
        · rw [if_neg hc]
          exact ⟨fun _ => g2 hc J2 (hF'.trans f2), fun z => absurd rfl z⟩
      rcases hA j (by omega) with ⟨hf, hOk⟩ | ⟨hf, i0, hi0, hno, hOk⟩
      · have inner : ∀ (e i : Nat) (J' : Mem), i + e = S.2.2.2.2.1.1 → FrM K J' → R 177 20 [(0, .inr (some 77)), (1, .inl (mask f j)), (2, .inl (j : Int)), (3, .inl 1), (4, .inl (i : Int))] [] J' Q := by
          intro e
          induction e with
          | zero => intro i J' hi hF'; exact fin J' 1 i hF' (by omega) ⟨fun z => absurd z (by decide), fun z => by rw [hf] at z; cases z⟩
          | succ e ihe =>
            intro i J' hi hF'
            obtain ⟨τ, t1, t2, t3⟩ := hOk i (by omega)
            exact step i J' τ (by omega) hF' t1 (fun _ J2 f2 => ihe (i + 1) J2 (by omega) f2) (fun z => absurd ⟨t2, t3⟩ z)
        exact inner S.2.2.2.2.1.1 0 J (by omega) hF
      · have inner : ∀ (e i : Nat) (J' : Mem), i + e = i0 → FrM K J' → R 177 20 [(0, .inr (some 77)), (1, .inl (mask f j)), (2, .inl (j : Int)), (3, .inl 1), (4, .inl (i : Int))] [] J' Q := by
          intro e
          induction e with
          | zero =>
            intro i J' hi hF'
            have : i = i0 := by omega
            subst this
            obtain ⟨τ, t1, t2⟩ := hno
            exact step i J' τ hi0 hF' t1 (fun z => absurd z t2) (fun _ J2 f2 => nots hf (S.2.2.2.2.1.1 - (i + 1)) (i + 1) J2 (by omega) f2)
          | succ e ihe =>
            intro i J' hi hF'
            obtain ⟨τ, t1, t2, t3⟩ := hOk i (by omega)
            exact step i J' τ (by omega) hF' t1 (fun _ J2 f2 => ihe (i + 1) J2 (by omega) f2) (fun z => absurd ⟨t2, t3⟩ z)
        exact inner i0 0 J (by omega) hF
  exact loop 10 0 K (by omega) FrM.rfl'
end Fits
