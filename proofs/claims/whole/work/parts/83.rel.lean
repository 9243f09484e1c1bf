/-! States of the two objects. -/
abbrev Sta : Type := Snap × (Nat × (Nat → Snap)) × ((Nat → Bool) × (Nat → Snap)) × List Int × (Nat × (Nat → Int) × (Nat → Int)) × Int
def Good (S : Sta) : Prop := prog S.1.1 ∧ S.2.1.1 ≤ 8 ∧ (∀ k, k < S.2.1.1 → prog (S.2.1.2 k).1) ∧ (∀ i, i < 2 → S.2.2.1.1 i = true → prog (S.2.2.1.2 i).1) ∧ S.2.2.2.1.length ≤ 60 ∧ S.2.2.2.2.1.1 ≤ 3
def ImgC (I : Mem) (hd : Nat → Bool) (im : Nat → Snap) : Prop := ∀ i, i < 2 → I 74 i = b2i (hd i) ∧ (hd i = true → Mom I (70 + 2 * i) (im i))
def ImgM (I : Mem) (hd : Nat → Bool) (im : Nat → Snap) : Prop := ∀ i, i < 2 → I 82 i = b2i (hd i) ∧ (hd i = true → Blk I 81 (63 * i) (im i))
def RelC (I : Mem) (S : Sta) : Prop := Mom I 7 S.1 ∧ AnaOK I S.1.1 ∧ HistC I S.2.1.1 S.2.1.2 ∧ ImgC I S.2.2.1.1 S.2.2.1.2 ∧ (I 0 1 = (S.2.2.2.1.length : Int) ∧ Txt I 1 S.2.2.2.1) ∧ (I 0 13 = (S.2.2.2.2.1.1 : Int) ∧ ∀ j, j < S.2.2.2.2.1.1 → I 75 j = S.2.2.2.2.1.2.1 j ∧ I 76 j = S.2.2.2.2.1.2.2 j) ∧ I 0 14 = S.2.2.2.2.2
def RelM (I : Mem) (S : Sta) : Prop := MAna I S.1.1 ∧ (I 79 61 = S.1.2.1 ∧ I 79 62 = S.1.2.2) ∧ HistM I S.2.1.1 S.2.1.2 ∧ ImgM I S.2.2.1.1 S.2.2.1.2 ∧ (I 77 2 = (S.2.2.2.1.length : Int) ∧ Txt I 78 S.2.2.2.1) ∧ (I 77 11 = (S.2.2.2.2.1.1 : Int) ∧ ∀ j, j < S.2.2.2.2.1.1 → I 84 (2 * j) = S.2.2.2.2.1.2.1 j ∧ I 84 (2 * j + 1) = S.2.2.2.2.1.2.2 j) ∧ I 77 9 = S.2.2.2.2.2
def FrHi (I J : Mem) : Prop := ∀ id, 77 ≤ id → J id = I id
def FrLo (I J : Mem) : Prop := ∀ id, id < 77 → J id = I id
theorem ImgC.fr {I J : Mem} {hd : Nat → Bool} {im : Nat → Snap} (h : ImgC I hd im) (e : ∀ id, 70 ≤ id → id ≤ 74 → J id = I id) : ImgC J hd im := by
  intro i hi
  refine ⟨by rw [e 74 (by omega) (by omega)]; exact (h i hi).1, fun z => ((h i hi).2 z).fr (e _ (by omega) (by omega)) (e _ (by omega) (by omega))⟩
theorem RelC.fr {I J : Mem} {S : Sta} (h : RelC I S) (e : ∀ id, (id < 2 ∨ (7 ≤ id ∧ id ≤ 25) ∨ (51 ≤ id ∧ id ≤ 76)) → J id = I id) : RelC J S := by
  obtain ⟨h1, h2, h3, h4, ⟨h5, h5'⟩, ⟨h6, h6'⟩, h7⟩ := h
  refine ⟨h1.fr (e 7 (by omega)) (e 8 (by omega)), h2.fr (fun id a b => e id (by omega)), h3.fr (fun id a b => e id (by omega)), h4.fr (fun id a b => e id (by omega)), ⟨by rw [e 0 (by omega)]; exact h5, fun j hj => by rw [e 1 (by omega)]; exact h5' j hj⟩, ⟨by rw [e 0 (by omega)]; exact h6, fun j hj => by rw [e 75 (by omega), e 76 (by omega)]; exact h6' j hj⟩, by rw [e 0 (by omega)]; exact h7⟩
theorem HistM.fr {I J : Mem} {n : Nat} {h : Nat → Snap} (hh : HistM I n h) (e1 : J 77 5 = I 77 5) (e2 : J 80 = I 80) : HistM J n h := by
  unfold HistM Blk
  rw [e1, e2]
  exact hh
theorem ImgM.fr {I J : Mem} {hd : Nat → Bool} {im : Nat → Snap} (h : ImgM I hd im) (e1 : J 81 = I 81) (e2 : J 82 = I 82) : ImgM J hd im := by
  unfold ImgM Blk
  rw [e1, e2]
  exact h
theorem RelM.fr {I J : Mem} {S : Sta} (h : RelM I S) (e : ∀ id, (78 ≤ id ∧ id ≤ 84) ∨ (89 ≤ id ∧ id ≤ 99) → J id = I id) (e7 : ∀ k, k = 2 ∨ k = 5 ∨ k = 9 ∨ k = 11 ∨ k = 20 → J 77 k = I 77 k) : RelM J S := by
  obtain ⟨h1, ⟨h2, h2'⟩, h3, h4, ⟨h5, h5'⟩, ⟨h6, h6'⟩, h7⟩ := h
  refine ⟨h1.fr' (fun id hid => e id (by omega)) (e7 20 (by omega)), ⟨by rw [e 79 (by omega)]; exact h2, by rw [e 79 (by omega)]; exact h2'⟩, h3.fr (e7 5 (by omega)) (e 80 (by omega)), h4.fr (e 81 (by omega)) (e 82 (by omega)), ⟨by rw [e7 2 (by omega)]; exact h5, fun j hj => by rw [e 78 (by omega)]; exact h5' j hj⟩, ⟨by rw [e7 11 (by omega)]; exact h6, fun j hj => by rw [e 84 (by omega)]; exact h6' j hj⟩, by rw [e7 9 (by omega)]; exact h7⟩
/-- the first thing that each of the model's methods does -/
theorem RelM.thr {I : Mem} {S : Sta} {v : Int} (h : RelM I S) : RelM (upd2 I 77 0 v) S := h.fr (fun id hid => upd2_id (by omega)) (fun k hk => by rw [upd2_at, if_neg (by omega)])
theorem thr_lo {I : Mem} {v : Int} : FrLo I (upd2 I 77 0 v) := fun id hid => upd2_id (by omega)
theorem RelC.now {I : Mem} {S : Sta} (h : RelC I S) : NowOK I S.1.1 := ⟨h.1.1, h.1.2.1⟩
theorem RelM.blk {I : Mem} {S : Sta} (h : RelM I S) : Blk I 79 0 S.1 := ⟨fun j hj => by rw [Nat.zero_add]; exact h.1.1.1.1.1 j hj, h.1.1.1.2.2.1, h.2.1.1, h.2.1.2⟩
/-! type, clear -/
def oType (c : Int) (S : Sta) : Int × Sta := if ¬ (0 ≤ c ∧ c ≤ 255) then (-1, S) else if S.2.2.2.1.length = 60 then (-3, S) else ((S.2.2.2.1.length : Int) + 1, (S.1, S.2.1, S.2.2.1, S.2.2.2.1 ++ [c], S.2.2.2.2))
theorem txt_push {I : Mem} {id : Nat} {w : List Int} {c : Int} (h : Txt I id w) : Txt (upd2 I id w.length c) id (w ++ [c]) := by
  intro j hj
  rw [List.length_append, List.length_singleton] at hj
  rw [upd2_at, getD_app]
  by_cases hjw : j = w.length
  · rw [if_pos ⟨rfl, hjw⟩, if_neg (by omega), hjw, Nat.sub_self]; rfl
  · rw [if_neg (fun q => hjw q.2), if_pos (by omega)]
    exact h j (by omega)
section Ops
variable {I : Mem} {S : Sta} {Q : Post}
theorem C_type {c : Int} (hG : Good S) (h : RelC I S) (hQ : ∀ I', RelC I' (oType c S).2 → FrHi I I' → Q (some (.inl (oType c S).1)) I') : R 76 0 [(0, .inr (some 0)), (1, .inl c)] [] I Q := by
  obtain ⟨h1, h2, h3, h4, ⟨h5, h5'⟩, h6, h7⟩ := id h
  have hw := hG.2.2.2.2.1
  unfold oType at hQ
  refine t76_0 I _ ⟨fun z => ?_, fun z => ⟨fun z2 => ⟨fun z3 => ?_, fun z3 => ?_⟩, fun z2 => ?_⟩⟩
  · rw [if_pos (by omega)] at hQ; exact hQ I h (fun _ _ => rfl)
  · rw [if_neg (by omega), if_neg (by omega)] at hQ
    dsimp only
    rw [h5, wr_nat (id := 1) (by rw [sz1]; omega), upd2_id (show 0 ≠ 1 by decide), h5, wrap_succ (by omega)]
    generalize hJ : upd2 (upd2 I 1 S.2.2.2.1.length c) 0 1 ((S.2.2.2.1.length + 1 : Nat) : Int) = J
    have ji : ∀ id, id ≠ 0 → id ≠ 1 → J id = I id := fun id a b => by rw [← hJ, upd2_id a, upd2_id b]
    have j0 : ∀ k, k ≠ 1 → J 0 k = I 0 k := fun k a => by rw [← hJ, upd2_at, if_neg (fun q => a q.2), upd2_id (by decide)]
    have j1 : J 0 1 = ((S.2.2.2.1.length + 1 : Nat) : Int) := by rw [← hJ]; simp [upd2]
    rw [j1]
    refine hQ J ⟨h1.fr (ji 7 (by decide) (by decide)) (ji 8 (by decide) (by decide)), h2.fr (fun id a b => ji id (by omega) (by omega)), h3.fr (fun id a b => ji id (by omega) (by omega)), h4.fr (fun id a b => ji id (by omega) (by omega)), ⟨by rw [j1]; simp, ?_⟩, ⟨by rw [j0 13 (by decide)]; exact h6.1, fun j hj => by rw [ji 75 (by decide) (by decide), ji 76 (by decide) (by decide)]; exact h6.2 j hj⟩, by rw [j0 14 (by decide)]; exact h7⟩ (fun id hid => ji id (by omega) (by omega))
    have := txt_push (c := c) h5'
    intro j hj
    rw [← hJ, upd2_id (by decide)]
    exact this j hj
  · rw [if_neg (by omega), if_pos (by omega)] at hQ; exact hQ I h (fun _ _ => rfl)
  · rw [if_pos (by omega)] at hQ; exact hQ I h (fun _ _ => rfl)
theorem inI_iff {v lo hi : Int} : inI v lo hi = true ↔ lo ≤ v ∧ v ≤ hi := by unfold inI; simp
theorem M_type {c : Int} (hG : Good S) (h : RelM I S) (hQ : ∀ I', RelM I' (oType c S).2 → FrLo I I' → Q (some (.inl (oType c S).1)) I') : R 114 0 [(0, .inr (some 77)), (1, .inl c)] [] I Q := by
  have hw := hG.2.2.2.2.1
  unfold oType at hQ
  refine t114_0 I _ ?_
  dsimp only
  have h0 := h.thr (v := 0)
  have f0 := thr_lo (I := I) (v := 0)
  generalize upd2 I 77 0 0 = K at h0 f0 ⊢
  obtain ⟨h1, h2, h3, h4, ⟨h5, h5'⟩, h6, h7⟩ := id h0
  refine ⟨fun z => ⟨fun z2 => ?_, fun z2 => ?_⟩, fun z => ?_⟩
  · have z := inI_iff.mp (nob2i.mp z)
    rw [h5] at z2
    rw [if_neg (by omega), if_neg (by omega)] at hQ
    rw [h5, toNat_c, upd2_id (show 77 ≠ 78 by decide), h5, wrap_succ (by omega)]
    refine ⟨inb_nat (by omega), ?_⟩
    generalize hJ : upd2 (upd2 K 78 S.2.2.2.1.length c) 77 2 ((S.2.2.2.1.length + 1 : Nat) : Int) = J
    have ji : ∀ id, id ≠ 77 → id ≠ 78 → J id = K id := fun id a b => by rw [← hJ, upd2_id a, upd2_id b]
    have j7 : ∀ k, k ≠ 2 → J 77 k = K 77 k := fun k a => by rw [← hJ, upd2_at, if_neg (fun q => a q.2), upd2_id (by decide)]
    have j2 : J 77 2 = ((S.2.2.2.1.length + 1 : Nat) : Int) := by rw [← hJ]; simp [upd2]
    rw [j2]
    refine hQ J ⟨h1.fr' (fun id hid => ji id (by omega) (by omega)) (j7 20 (by decide)), ⟨by rw [ji 79 (by decide) (by decide)]; exact h2.1, by rw [ji 79 (by decide) (by decide)]; exact h2.2⟩, h3.fr (j7 5 (by decide)) (ji 80 (by decide) (by decide)), h4.fr (ji 81 (by decide) (by decide)) (ji 82 (by decide) (by decide)), ⟨by rw [j2]; simp, ?_⟩, ⟨by rw [j7 11 (by decide)]; exact h6.1, fun j hj => by rw [ji 84 (by decide) (by decide)]; exact h6.2 j hj⟩, by rw [j7 9 (by decide)]; exact h7⟩ (fun id hid => by rw [ji id (by omega) (by omega)]; exact f0 id hid)
    have := txt_push (c := c) h5'
    intro j hj
    rw [← hJ, upd2_id (by decide)]
    exact this j hj
  · have z := inI_iff.mp (nob2i.mp z)
    rw [h5] at z2
    rw [if_neg (by omega), if_pos (by omega)] at hQ
    exact hQ K h0 f0
  · rw [if_pos (fun w => z (nob2i.mpr (inI_iff.mpr w)))] at hQ
    exact hQ K h0 f0
def oClear (S : Sta) : Int × Sta := ((S.2.2.2.1.length : Int), (S.1, S.2.1, S.2.2.1, [], S.2.2.2.2))
theorem C_clear (h : RelC I S) (hQ : ∀ I', RelC I' (oClear S).2 → FrHi I I' → Q (some (.inl (oClear S).1)) I') : R 77 0 [(0, .inr (some 0))] [] I Q := by
  obtain ⟨h1, h2, h3, h4, ⟨h5, h5'⟩, h6, h7⟩ := id h
  refine t77_0 I ?_
  dsimp only
  rw [h5]
  generalize hJ : upd2 I 0 1 0 = J
  have ji : ∀ id, id ≠ 0 → J id = I id := fun id a => by rw [← hJ, upd2_id a]
  have j0 : ∀ k, k ≠ 1 → J 0 k = I 0 k := fun k a => by rw [← hJ, upd2_at, if_neg (fun q => a q.2)]
  exact hQ J ⟨h1.fr (ji 7 (by decide)) (ji 8 (by decide)), h2.fr (fun id a b => ji id (by omega)), h3.fr (fun id a b => ji id (by omega)), h4.fr (fun id a b => ji id (by omega)), ⟨by rw [← hJ]; simp [upd2, oClear], fun j hj => absurd hj (by simp [oClear])⟩, ⟨by rw [j0 13 (by decide)]; exact h6.1, fun j hj => by rw [ji 75 (by decide), ji 76 (by decide)]; exact h6.2 j hj⟩, by rw [j0 14 (by decide)]; exact h7⟩ (fun id hid => ji id (by omega))
theorem M_clear (h : RelM I S) (hQ : ∀ I', RelM I' (oClear S).2 → FrLo I I' → Q (some (.inl (oClear S).1)) I') : R 115 0 [(0, .inr (some 77))] [] I Q := by
  refine t115_0 I ?_
  dsimp only
  have h0 := h.thr (v := 0)
  have f0 := thr_lo (I := I) (v := 0)
  generalize upd2 I 77 0 0 = K at h0 f0 ⊢
  obtain ⟨h1, h2, h3, h4, ⟨h5, h5'⟩, h6, h7⟩ := id h0
  rw [h5]
  generalize hJ : upd2 K 77 2 0 = J
  have ji : ∀ id, id ≠ 77 → J id = K id := fun id a => by rw [← hJ, upd2_id a]
  have j7 : ∀ k, k ≠ 2 → J 77 k = K 77 k := fun k a => by rw [← hJ, upd2_at, if_neg (fun q => a q.2)]
  exact hQ J ⟨h1.fr' (fun id hid => ji id (by omega)) (j7 20 (by decide)), ⟨by rw [ji 79 (by decide)]; exact h2.1, by rw [ji 79 (by decide)]; exact h2.2⟩, h3.fr (j7 5 (by decide)) (ji 80 (by decide)), h4.fr (ji 81 (by decide)) (ji 82 (by decide)), ⟨by rw [← hJ]; simp [upd2, oClear], fun j hj => absurd hj (by simp [oClear])⟩, ⟨by rw [j7 11 (by decide)]; exact h6.1, fun j hj => by rw [ji 84 (by decide)]; exact h6.2 j hj⟩, by rw [j7 9 (by decide)]; exact h7⟩ (fun id hid => by rw [ji id (by omega)]; exact f0 id hid)
end Ops
