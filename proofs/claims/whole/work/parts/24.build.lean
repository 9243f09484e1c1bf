/-! Tree.build lays the tree of the heads whose text it reads. -/
def addM (I : Mem) (t p : Nat) (ar c n1 n2 i pl dp : Int) : Mem :=
  upd2 (upd2 (upd2 (upd2 (upd2 (upd2 (upd2 (upd2 I (t + 1) p c) (t + 2) p n1) (t + 3) p n2) (t + 4) p i) (t + 7) p ar) (t + 10) p ((pts c : Nat) : Int)) (t + 8) p pl) (t + 9) p dp
theorem R_add {t sg : Nat} (ht : (t = 9 ∧ sg = 8) ∨ (t = 40 ∧ sg = 38)) {p i : Nat} {ar : Int} {I : Mem} {Q : Post} (hp : p < 60) (hi : i < 60) (har : ar < (p : Int))
    (h : Q none (addM I t p ar (I sg i) (if 1 < hds (I sg i) then rd I sg ((i + 1 : Nat) : Int) else 0) (if 2 < hds (I sg i) then rd I sg ((i + 2 : Nat) : Int) else 0) i (if 0 ≤ ar then wrap (((pts (I (t + 1) ar.toNat) : Nat) : Int) - I (t + 10) ar.toNat) else 0) (if 0 ≤ ar then wrap (I (t + 9) ar.toNat + 1) else 0))) :
    R 68 0 [(0, .inr (some t)), (1, .inl (p : Int)), (2, .inl ar), (3, .inr (some sg)), (4, .inl (i : Int))] [] I Q := by
  have ht2 : t = 9 ∨ t = 40 := by rcases ht with ⟨h, -⟩ | ⟨h, -⟩; exact Or.inl h; exact Or.inr h
  have hsg : sz sg = 60 := by rcases ht with ⟨-, rfl⟩ | ⟨-, rfl⟩ <;> rfl
  have w : ∀ (j : Nat) (J : Mem) (v : Int), 1 ≤ j → j ≤ 10 → wr J (t + j) (p : Int) v = upd2 J (t + j) p v := fun j J v h1 h2 => wr_nat (by rw [szT ht2 h1 h2]; exact hp)
  have sgn : ∀ j, 1 ≤ j → j ≤ 10 → sg ≠ t + j := by intro j h1 h2; rcases ht with ⟨rfl, rfl⟩ | ⟨rfl, rfl⟩ <;> omega
  have e0 : rd I sg (i : Int) = I sg i := rd_nat (by rw [hsg]; exact hi)
  have ew1 : wrap ((i : Int) + 1) = ((i + 1 : Nat) : Int) := wrap_succ (by omega)
  have ew2 : wrap ((i : Int) + 2) = ((i + 2 : Nat) : Int) := by rw [wrap_of (by omega) (by omega)]; omega
  have rsg : ∀ (J : Mem) (j : Nat) (v x : Int), 1 ≤ j → j ≤ 10 → rd (upd2 J (t + j) p v) sg x = rd J sg x := fun J j v x h1 h2 => rd_upd (sgn j h1 h2)
  have rj : ∀ (J : Mem) (j k : Nat) (v x : Int), k ≠ j → rd (upd2 J (t + j) p v) (t + k) x = rd J (t + k) x := fun J j k v x h1 => rd_upd (by omega)
  have ra : ∀ (J : Mem) (j : Nat) (v : Int), 1 ≤ j → j ≤ 10 → 0 ≤ ar → rd (upd2 J (t + j) p v) (t + j) ar = J (t + j) ar.toNat := by
    intro J j v h1 h2 h0
    unfold rd
    rw [szT ht2 h1 h2, if_pos ⟨h0, by omega⟩]
    unfold upd2
    rw [if_neg (by omega)]
  have rb : ∀ (J : Mem) (j : Nat), 1 ≤ j → j ≤ 10 → 0 ≤ ar → rd J (t + j) ar = J (t + j) ar.toNat := by
    intro J j h1 h2 h0
    unfold rd
    rw [szT ht2 h1 h2, if_pos ⟨h0, by omega⟩]
  refine t68_0 t sg ht I p ar i ?_
  dsimp only
  rw [e0, ew1, ew2]
  rw [w 1 _ _ (by omega) (by omega)]
  unfold addM at h
  refine ⟨fun h1 => ?_, fun h1 => ?_⟩
  · rw [if_neg (by omega), if_neg (by omega)] at h
    rw [w 2 _ _ (by omega) (by omega)]
    refine ⟨fun h2 => ?_, fun h2 => absurd h1 (by omega)⟩
    rw [w 3 _ _ (by omega) (by omega), w 4 _ _ (by omega) (by omega), w 7 _ _ (by omega) (by omega), w 10 _ _ (by omega) (by omega)]
    refine ⟨fun h3 => ?_, fun h3 => ?_⟩
    · rw [if_pos h3, if_pos h3] at h
      rw [rj _ 10 1 _ _ (by omega), rj _ 7 1 _ _ (by omega), rj _ 4 1 _ _ (by omega), rj _ 3 1 _ _ (by omega), rj _ 2 1 _ _ (by omega), ra _ 1 _ (by omega) (by omega) h3, ra _ 10 _ (by omega) (by omega) h3]
      rw [w 8 _ _ (by omega) (by omega), w 9 _ _ (by omega) (by omega), rj _ 8 9 _ _ (by omega), rj _ 10 9 _ _ (by omega), rj _ 7 9 _ _ (by omega), rj _ 4 9 _ _ (by omega), rj _ 3 9 _ _ (by omega), rj _ 2 9 _ _ (by omega), rj _ 1 9 _ _ (by omega), rb _ 9 (by omega) (by omega) h3]
      simpa [upd2] using h
    · rw [if_neg h3, if_neg h3] at h
      rw [w 8 _ _ (by omega) (by omega), w 9 _ _ (by omega) (by omega)]
      exact h
  · rw [if_pos (by omega)] at h
    rw [rsg _ 1 _ _ (by omega) (by omega), w 2 _ _ (by omega) (by omega)]
    refine ⟨fun h2 => ?_, fun h2 => ?_⟩
    · rw [if_neg (by omega)] at h
      rw [w 3 _ _ (by omega) (by omega), w 4 _ _ (by omega) (by omega), w 7 _ _ (by omega) (by omega), w 10 _ _ (by omega) (by omega)]
      refine ⟨fun h3 => ?_, fun h3 => ?_⟩
      · rw [if_pos h3, if_pos h3] at h
        rw [rj _ 10 1 _ _ (by omega), rj _ 7 1 _ _ (by omega), rj _ 4 1 _ _ (by omega), rj _ 3 1 _ _ (by omega), rj _ 2 1 _ _ (by omega), ra _ 1 _ (by omega) (by omega) h3, ra _ 10 _ (by omega) (by omega) h3]
        rw [w 8 _ _ (by omega) (by omega), w 9 _ _ (by omega) (by omega), rj _ 8 9 _ _ (by omega), rj _ 10 9 _ _ (by omega), rj _ 7 9 _ _ (by omega), rj _ 4 9 _ _ (by omega), rj _ 3 9 _ _ (by omega), rj _ 2 9 _ _ (by omega), rj _ 1 9 _ _ (by omega), rb _ 9 (by omega) (by omega) h3]
        simpa [upd2] using h
      · rw [if_neg h3, if_neg h3] at h
        rw [w 8 _ _ (by omega) (by omega), w 9 _ _ (by omega) (by omega)]
        exact h
    · rw [if_pos (by omega)] at h
      rw [rsg _ 2 _ _ (by omega) (by omega), rsg _ 1 _ _ (by omega) (by omega)]
      rw [w 3 _ _ (by omega) (by omega), w 4 _ _ (by omega) (by omega), w 7 _ _ (by omega) (by omega), w 10 _ _ (by omega) (by omega)]
      refine ⟨fun h3 => ?_, fun h3 => ?_⟩
      · rw [if_pos h3, if_pos h3] at h
        rw [rj _ 10 1 _ _ (by omega), rj _ 7 1 _ _ (by omega), rj _ 4 1 _ _ (by omega), rj _ 3 1 _ _ (by omega), rj _ 2 1 _ _ (by omega), ra _ 1 _ (by omega) (by omega) h3, ra _ 10 _ (by omega) (by omega) h3]
        rw [w 8 _ _ (by omega) (by omega), w 9 _ _ (by omega) (by omega), rj _ 8 9 _ _ (by omega), rj _ 10 9 _ _ (by omega), rj _ 7 9 _ _ (by omega), rj _ 4 9 _ _ (by omega), rj _ 3 9 _ _ (by omega), rj _ 2 9 _ _ (by omega), rj _ 1 9 _ _ (by omega), rb _ 9 (by omega) (by omega) h3]
        simpa [upd2] using h
      · rw [if_neg h3, if_neg h3] at h
        rw [w 8 _ _ (by omega) (by omega), w 9 _ _ (by omega) (by omega)]
        exact h
