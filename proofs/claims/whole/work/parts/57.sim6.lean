/-! The model's runs. -/
theorem mrest1 {I0 : Mem} {Q : Post} (hQ : ∀ (I : Mem), (∀ id, id ≠ 108 → I id = I0 id) → (∀ r, r < 60 → I 108 r = 0) → R 168 68 [(0, .inr (some 77)), (3, .inl 0)] [] I Q) :
    ∀ (d f : Nat) (I : Mem), f + d = 60 → (∀ id, id ≠ 108 → I id = I0 id) → (∀ r, r < f → I 108 r = 0) → R 168 47 [(0, .inr (some 77)), (3, .inl (f : Int))] [] I Q := by
  intro d
  induction d with
  | zero =>
    intro f I hf hF hD
    have hf : f = 60 := by omega
    subst hf
    exact t168_47 I _ ⟨fun _ => hQ I hF hD, fun h => absurd (by omega) h⟩
  | succ d ih =>
    intro f I hf hF hD
    refine t168_47 I _ ⟨fun h => absurd h (by omega), fun _ => ⟨inb_nat (by omega), ?_⟩⟩
    dsimp only
    rw [toNat_c, wrap_succ (by omega)]
    refine ih (f + 1) _ (by omega) (fun id h => (upd2_id h).trans (hF id h)) (fun g hg => ?_)
    rw [upd2_at]
    by_cases hgf : g = f
    · simp [hgf]
    · simp [hgf]
      exact hD g (by omega)
theorem mrest2 {I0 : Mem} {Q : Post} (hQ : ∀ (I : Mem), (∀ id, id ≠ 109 → id ≠ 110 → I id = I0 id) → (∀ r, r < 3 → I 109 r = 0 ∧ I 110 r = 0) → R 160 0 [(0, .inr (some 77)), (1, .inl 0), (2, .inl (-9))] [] I (fun r1 I1 => r1 = none ∧ (R 168 100 [(0, .inr (some 77))] [] I1 Q))) :
    ∀ (d f : Nat) (I : Mem), f + d = 3 → (∀ id, id ≠ 109 → id ≠ 110 → I id = I0 id) → (∀ r, r < f → I 109 r = 0 ∧ I 110 r = 0) → R 168 68 [(0, .inr (some 77)), (3, .inl (f : Int))] [] I Q := by
  intro d
  induction d with
  | zero =>
    intro f I hf hF hD
    have hf : f = 3 := by omega
    subst hf
    exact t168_68 I _ ⟨fun _ => hQ I hF hD, fun h => absurd (by omega) h⟩
  | succ d ih =>
    intro f I hf hF hD
    refine t168_68 I _ ⟨fun h => absurd h (by omega), fun _ => ⟨inb_nat (by omega), inb_nat (by omega), ?_⟩⟩
    dsimp only
    rw [toNat_c, wrap_succ (by omega)]
    refine ih (f + 1) _ (by omega) (fun id h1 h2 => by rw [upd2_id h2, upd2_id h1]; exact hF id h1 h2) (fun g hg => ?_)
    rw [upd2_id (show 109 ≠ 110 by decide), upd2_at, upd2_at, upd2_id (show 110 ≠ 109 by decide)]
    by_cases hgf : g = f
    · simp [hgf]
    · simp [hgf]
      exact hD g (by omega)
theorem R_runs {H : List Hd} (hH : prog H) {I σ : Mem} {x y : Int} {Q : Post} (hA : MAna I H) (hσ : Start x y σ) (hQ : ∀ I', FrM I I' → RunOK (runN H 601 (begF σ 0 (-1))) I' → Q none I') :
    R 168 0 [(0, .inr (some 77)), (1, .inl x), (2, .inl y)] [] I Q := by
  have h60 := prog_60 hH
  refine t168_0 I _ _ ⟨Or.inl rfl, ?_⟩
  dsimp only
  generalize hJ : upd2 (upd2 (upd2 (upd2 (upd2 (upd2 (upd2 (upd2 (upd2 I 77 53 x) 77 54 y) 77 39 0) 77 43 0) 77 44 0) 77 46 0) 77 47 0) 77 48 0) 77 49 0 = J
  have ej : ∀ id, id ≠ 77 → J id = I id := fun id h => by rw [← hJ, upd2_id h, upd2_id h, upd2_id h, upd2_id h, upd2_id h, upd2_id h, upd2_id h, upd2_id h, upd2_id h]
  have es : J 77 53 = x ∧ J 77 54 = y ∧ J 77 39 = 0 ∧ J 77 43 = 0 ∧ J 77 44 = 0 ∧ J 77 46 = 0 ∧ J 77 47 = 0 ∧ J 77 48 = 0 ∧ J 77 49 = 0 := by
    rw [← hJ]
    simp [upd2]
  have eo : ∀ k, (k < 39 ∨ 54 < k) → J 77 k = I 77 k := by
    intro k hk
    rw [← hJ]
    have h1 : k ≠ 53 := by omega
    have h2 : k ≠ 54 := by omega
    have h3 : k ≠ 39 := by omega
    have h4 : k ≠ 43 := by omega
    have h5 : k ≠ 44 := by omega
    have h6 : k ≠ 46 := by omega
    have h7 : k ≠ 47 := by omega
    have h8 : k ≠ 48 := by omega
    have h9 : k ≠ 49 := by omega
    simp [upd2, h1, h2, h3, h4, h5, h6, h7, h8, h9]
  refine mrest1 (I0 := J) (fun I1 hF1 hD1 => ?_) 60 0 J (by omega) (fun _ _ => rfl) (fun r hr => absurd hr (by omega))
  refine mrest2 (I0 := I1) (fun I2 hF2 hD2 => ?_) 3 0 I1 (by omega) (fun _ _ _ => rfl) (fun r hr => absurd hr (by omega))
  have e77 : I2 77 = J 77 := by rw [hF2 77 (by decide) (by decide), hF1 77 (by decide)]
  have fr : FrM I I2 := by
    refine ⟨fun id a b => ?_, fun k hk => ?_⟩
    · rw [hF2 id (by omega) (by omega), hF1 id (by omega), ej id a]
    · rw [e77]; exact eo k hk
  have hA2 := hA.frM fr
  obtain ⟨u1, u2, u3, u4, u5, u6, u7, u8, u9, u10⟩ := id hσ
  obtain ⟨v1, v2, v3, v4, v5, v6, v7, v8, v9⟩ := es
  have hRM : RM H σ I2 0 0 := by
    refine ⟨⟨?_, ?_, ?_, ?_, ?_, ?_, ?_, fun r hr => ?_⟩, fun d hd => absurd hd (by omega), fun d hd => absurd hd (by omega), ?_, ?_, fun r hr => ?_⟩
    · rw [e77, v3]; rfl
    · rw [e77, v4]; rfl
    · rw [e77, v5]
    · rw [e77, v6, u5]
    · rw [e77, v7, u6]
    · rw [e77, v1, u1]
    · rw [e77, v2, u2]
    · rw [hF2 108 (by decide) (by decide), hD1 r hr, u9 r hr]
    · rw [e77, v8, (u10 0 (by omega)).2]
    · rw [e77, v9, (u10 0 (by omega)).1]
    · rw [(hD2 r hr).1, (hD2 r hr).2, (u10 r hr).1, (u10 r hr).2]
      exact ⟨rfl, rfl, Int.le_refl _⟩
  refine begins_sim (q := 0) (s := -1) hRM u3 (by rw [u7]; rfl) (by rw [u8]; rfl) (by omega) (by omega) (by omega) (fun r hr => by rw [u9 r hr]; omega) rfl (fun J' hT => ⟨rfl, ?_⟩)
  obtain ⟨b1, b2⟩ := Start_MI hH hσ
  refine runs_loop hH 601 0 _ J' (by omega) (hA2.frM hT.1) ?_ (fun I' hF hfin => hQ I' (fr.trans (hT.1.trans hF)) hfin)
  rcases hT.2 with hl | ⟨hl, o', L', e1, e2, hR', hv'⟩
  · omega
  · right
    have z1 : o' = 1 := by have := b2.1; omega
    have z2 : L' = 0 := by have := b2.2.2.1; omega
    subst z1 z2
    refine ⟨hl, 1, 1, 0, b2, ⟨fun j hj => absurd hj (by omega), fun j hj => absurd hj (by omega), fun d hd => ?_⟩, hR', hv'⟩
    have hd0 : d = 0 := by omega
    subst hd0
    have hnl : ¬ (300 ≤ σ 26 2 ∨ 100 ≤ σ 26 11) := by omega
    obtain ⟨a1, a2, a3, a4, a5, a6⟩ := begF_at (o := 0) (q := 0) (s := -1) hnl (by rw [u7]; rfl)
    rw [a4, a3, if_pos rfl, if_pos rfl]
    refine ⟨by omega, by omega, fun p hp c hc => ?_⟩
    have : p = 0 := by omega
    subst this
    rw [Kf_0] at hc
    cases hc
