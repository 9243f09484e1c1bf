/-! inputs, undo, next, shortest, shrinks: the class. -/
def setS (S : Sta) (s : Snap) (n : Nat) (h : Nat → Snap) : Sta := (s, (n, h), S.2.2)
def pushS (S : Sta) (s : Snap) : Sta := setS S s (phN S.2.1.1) (phH S.2.1.1 S.2.1.2 S.1)
theorem phN_le {n : Nat} (h : n ≤ 8) : phN n ≤ 8 := by unfold phN; split <;> omega
theorem phH_prog {n : Nat} {h : Nat → Snap} {s : Snap} (hn : n ≤ 8) (hh : ∀ k, k < n → prog (h k).1) (hs : prog s.1) : ∀ k, k < phN n → prog (phH n h s k).1 := by
  intro k hk
  unfold phN at hk
  unfold phH
  by_cases h8 : n = 8
  · rw [if_pos h8] at hk ⊢
    by_cases hk7 : k < 7
    · rw [if_pos hk7]; exact hh _ (by omega)
    · rw [if_neg hk7]; exact hs
  · rw [if_neg h8] at hk ⊢
    by_cases hkn : k < n
    · rw [if_pos hkn]; exact hh _ hkn
    · rw [if_neg hkn]; exact hs
theorem Good.push {S : Sta} {s : Snap} (hG : Good S) (hs : prog s.1) : Good (pushS S s) := ⟨hs, phN_le hG.2.1, phH_prog hG.2.1 hG.2.2.1 hG.1, hG.2.2.2⟩
theorem RelC.set {I J : Mem} {S : Sta} {s : Snap} {n : Nat} {h : Nat → Snap} (hR : RelC I S) (h1 : Mom J 7 s) (h2 : AnaOK J s.1) (h3 : HistC J n h) (e : ∀ id, (id < 2 ∨ (70 ≤ id ∧ id ≤ 76)) → J id = I id) : RelC J (setS S s n h) := by
  obtain ⟨-, -, -, h4, h5, h6, h7⟩ := hR
  exact ⟨h1, h2, h3, h4.fr (fun id a b => e id (by omega)), ⟨by rw [e 0 (by omega)]; exact h5.1, fun j hj => by rw [e 1 (by omega)]; exact h5.2 j hj⟩, ⟨by rw [e 0 (by omega)]; exact h6.1, fun j hj => by rw [e 75 (by omega), e 76 (by omega)]; exact h6.2 j hj⟩, by rw [e 0 (by omega)]; exact h7⟩
def oInputs (x y : Int) (S : Sta) : Int × Sta := if x = S.1.2.1 ∧ y = S.1.2.2 then (-2, S) else (1, pushS S (S.1.1, x, y))
section Acts
variable {I : Mem} {S : Sta} {Q : Post}
theorem C_inputs {x y : Int} (hG : Good S) (h : RelC I S) (hQ : ∀ I', RelC I' (oInputs x y S).2 → FrHi I I' → Q (some (.inl (oInputs x y S).1)) I') : R 79 0 [(0, .inr (some 0)), (1, .inl x), (2, .inl y)] [] I Q := by
  have hx := hG.1.2.2.2
  unfold oInputs at hQ
  have go : ¬ (x = S.1.2.1 ∧ y = S.1.2.2) → R 13 0 [(0, .inr (some 51)), (1, .inr (some 7))] [] I (fun r1 I1 => r1 = none ∧ (let J2 := upd2 I1 7 2 x; let J3 := upd2 J2 7 3 y; Q (some (.inl 1)) J3)) := by
    intro z
    rw [if_neg z] at hQ
    refine R_remember h.2.2.1 h.1 hx (fun I1 h1 f1 => ⟨rfl, ?_⟩)
    dsimp only
    generalize hJ : upd2 (upd2 I1 7 2 x) 7 3 y = J
    have ji : ∀ id, id ≠ 7 → J id = I1 id := fun id a => by rw [← hJ, upd2_id a, upd2_id a]
    have jf : ∀ id, id ≠ 7 → (id < 51 ∨ 68 < id) → J id = I id := fun id a b => by rw [ji id a, f1 id b]
    refine hQ J (h.set ⟨?_, fun j hj => by rw [jf 8 (by decide) (by omega)]; exact h.1.2.1 j hj, ?_, ?_⟩ (h.2.1.fr (fun id a b => jf id (by omega) (by omega))) (h1.fr (fun id a b => ji id (by omega))) (fun id hid => jf id (by omega) (by omega))) (fun id hid => jf id (by omega) (by omega))
    · have : J 7 1 = I1 7 1 := by rw [← hJ]; simp [upd2]
      rw [this, f1 7 (by omega)]; exact h.1.1
    · rw [← hJ]; simp [upd2]
    · rw [← hJ]; simp [upd2]
  refine t79_0 I _ _ ?_
  rw [h.1.2.2.1, h.1.2.2.2]
  refine ⟨fun z => go (fun y => z y.1), fun z => ⟨fun z2 => go (fun y => z2 y.2), fun z2 => ?_⟩⟩
  rw [if_pos ⟨by simpa using z, by simpa using z2⟩] at hQ
  exact hQ I h (fun _ _ => rfl)
def oUndo (S : Sta) : Int × Sta := if S.2.1.1 = 0 then (-2, S) else (((S.2.1.1 - 1 : Nat) : Int), setS S (S.2.1.2 (S.2.1.1 - 1)) (S.2.1.1 - 1) S.2.1.2)
theorem C_undo (hG : Good S) (h : RelC I S) (hQ : ∀ I', RelC I' (oUndo S).2 → FrHi I I' → Q (some (.inl (oUndo S).1)) I') : R 81 0 [(0, .inr (some 0))] [] I Q := by
  unfold oUndo at hQ
  refine t81_0 I ?_
  have h5 := h.2.2.1.2.1
  refine ⟨fun z => ?_, fun z => ?_⟩
  · have hn : S.2.1.1 ≠ 0 := by intro e; rw [h5, e] at z; exact z rfl
    rw [if_neg hn] at hQ
    obtain ⟨n, hn'⟩ : ∃ n, S.2.1.1 = n + 1 := ⟨S.2.1.1 - 1, by omega⟩
    have hH := h.2.2.1
    have hpn := hG.2.2.1 n (by omega)
    rw [hn'] at hH hQ
    rw [Nat.add_sub_cancel] at hQ
    refine R_restore hH hpn.2.2.2 (fun I1 h1 m1 f1 => ⟨rfl, ?_⟩)
    refine R_analyse hpn (I := I1) ⟨m1.1, m1.2.1⟩ (fun I2 a2 f2 => ⟨rfl, ?_⟩)
    have hc : HistC I2 n S.2.1.2 := h1.fr (fun id a b => f2 id (by omega))
    rw [hc.2.1]
    exact hQ I2 (h.set (m1.fr (f2 7 (by omega)) (f2 8 (by omega))) a2 hc (fun id hid => by rw [f2 id (by omega), f1 id (by omega) (by omega) (by omega)])) (fun id hid => by rw [f2 id (by omega), f1 id (by omega) (by omega) (by omega)])
  · have hn : S.2.1.1 = 0 := by rw [h5] at z; omega
    rw [if_pos hn] at hQ
    exact hQ I h (fun _ _ => rfl)
def oNext (w : Int) (H : List Hd) : Int := if ¬ (0 ≤ w ∧ w ≤ 1) then -1 else if ¬ fsh H < H.length then -9 else if w = 0 then (fsh H : Int) else (rule H (fsh H) : Int)
theorem RelC.frS {I J : Mem} {S : Sta} (h : RelC I S) (e : FrSh I J) : RelC J S := h.fr (fun id hid => e id (by omega))
theorem C_next {w : Int} (hG : Good S) (h : RelC I S) (hQ : ∀ I', RelC I' S → FrHi I I' → Q (some (.inl (oNext w S.1.1))) I') : R 92 0 [(0, .inr (some 0)), (1, .inl w)] [] I Q := by
  unfold oNext at hQ
  refine t92_0 I _ ⟨fun z => ?_, fun z => ⟨fun z2 => ?_, fun z2 => ?_⟩⟩
  · rw [if_pos (by omega)] at hQ; exact hQ I h (fun _ _ => rfl)
  · rw [if_neg (by omega)] at hQ
    rw [h.1.1]
    refine R_load hG.1 (Or.inl rfl) h.1.2.1 (fun I1 s1 f1 => ⟨rfl, ?_⟩)
    refine R_find' hG.1 s1 (fun c => ⟨_, rfl, fun y => absurd rfl y, fun _ => ?_⟩) (fun c => ⟨_, rfl, fun _ => ?_, fun y => absurd (by decide) y⟩)
    · rw [if_pos c] at hQ
      exact hQ I1 (h.frS f1) (fun id hid => f1 id (by omega))
    · rw [if_neg (fun y => y c)] at hQ
      generalize hJ : upd2 (upd2 I1 37 3 (fsh S.1.1 : Int)) 37 4 (rule S.1.1 (fsh S.1.1) : Int) = J
      have fJ : FrSh I J := fun id hid => by rw [← hJ, upd2_id (by omega), upd2_id (by omega), f1 id hid]
      have j3 : J 37 3 = (fsh S.1.1 : Int) := by rw [← hJ]; simp [upd2]
      have j4 : J 37 4 = (rule S.1.1 (fsh S.1.1) : Int) := by rw [← hJ]; simp [upd2]
      have hQ := hQ J (h.frS fJ) (fun id hid => fJ id (by omega))
      rw [j3, j4]
      refine ⟨fun y => ?_, fun y => ?_⟩
      · rw [if_neg y] at hQ; exact hQ
      · rw [if_pos (by simpa using y)] at hQ; exact hQ
  · rw [if_pos (by omega)] at hQ; exact hQ I h (fun _ _ => rfl)
def oShortest (w : Int) (H : List Hd) : Int := if ¬ (0 ≤ w ∧ w ≤ 1) then -1 else if w = 0 then ((simp' 60 H).2 : Int) else ((simp' 60 H).1.length : Int)
theorem C_shortest {w : Int} (hG : Good S) (h : RelC I S) (hQ : ∀ I', RelC I' S → FrHi I I' → Q (some (.inl (oShortest w S.1.1))) I') : R 93 0 [(0, .inr (some 0)), (1, .inl w)] [] I Q := by
  unfold oShortest at hQ
  refine t93_0 I _ ⟨fun z => ?_, fun z => ⟨fun z2 => ?_, fun z2 => ?_⟩⟩
  · rw [if_pos (by omega)] at hQ; exact hQ I h (fun _ _ => rfl)
  · rw [if_neg (by omega)] at hQ
    rw [h.1.1]
    refine R_load hG.1 (Or.inl rfl) h.1.2.1 (fun I1 s1 f1 => ⟨rfl, ?_⟩)
    refine R_simplify (n := 60) hG.1 (Nat.le_refl _) s1 (fun I2 s2 f2 => ⟨_, rfl, ?_⟩)
    have fJ := f1.trans f2
    have hQ := hQ I2 (h.frS fJ) (fun id hid => fJ id (by omega))
    rw [show I2 40 0 = ((simp' 60 S.1.1).1.length : Int) from s2.2.2.1]
    refine ⟨fun y => ?_, fun y => ?_⟩
    · rw [if_neg y] at hQ; exact hQ
    · rw [if_pos (by simpa using y)] at hQ; exact hQ
  · rw [if_pos (by omega)] at hQ; exact hQ I h (fun _ _ => rfl)
def oShrinks (n : Int) (S : Sta) : Int × Sta := if ¬ (1 ≤ n ∧ n ≤ 60) then (-1, S) else if (simp' n.toNat S.1.1).2 = 0 then (-2, S) else (((simp' n.toNat S.1.1).2 : Int), pushS S ((simp' n.toNat S.1.1).1, S.1.2))
theorem C_shrinks {n : Int} (hG : Good S) (h : RelC I S) (hQ : ∀ I', RelC I' (oShrinks n S).2 → FrHi I I' → Q (some (.inl (oShrinks n S).1)) I') : R 80 0 [(0, .inr (some 0)), (1, .inl n)] [] I Q := by
  unfold oShrinks at hQ
  refine t80_0 I _ ⟨fun z => ?_, fun z => ⟨fun z2 => ?_, fun z2 => ?_⟩⟩
  · rw [if_pos (by omega)] at hQ; exact hQ I h (fun _ _ => rfl)
  · rw [if_neg (by omega)] at hQ
    rw [h.1.1]
    refine R_load hG.1 (Or.inl rfl) h.1.2.1 (fun I1 s1 f1 => ⟨rfl, ?_⟩)
    rw [show n = ((n.toNat : Nat) : Int) by omega]
    refine R_simplify (n := n.toNat) hG.1 (by omega) s1 (fun I2 s2 f2 => ⟨_, rfl, ?_⟩)
    have hN := (simp_prog n.toNat hG.1).1
    have fJ := f1.trans f2
    have h2 := h.frS fJ
    generalize (simp' n.toNat S.1.1).1 = N at hQ s2 hN
    generalize (simp' n.toNat S.1.1).2 = v at hQ
    refine ⟨fun y => ?_, fun y => ?_⟩
    · rw [if_neg (by omega)] at hQ
      refine R_remember h2.2.2.1 h2.1 hG.1.2.2.2 (fun I3 h3 f3 => ⟨rfl, ?_⟩)
      rw [f3 37 (by omega), s2.1]
      refine R_hold (m := 7) (sg := 38) (Or.inl ⟨rfl, by omega⟩) hN.2.2.2 (fun j hj => by rw [f3 38 (by omega)]; exact s2.2.1 j hj) (fun I4 g1 g2 g3 g4 => ⟨rfl, ?_⟩)
      refine R_analyse hN (I := I4) ⟨g3, g4⟩ (fun I5 a5 f5 => ⟨rfl, ?_⟩)
      have e4 : ∀ id, id ≠ 7 → id ≠ 8 → (id < 9 ∨ 25 < id) → I5 id = I3 id := fun id a b c => by rw [f5 id c, g1 id a b]
      have e0 : ∀ id, (id < 2 ∨ 70 ≤ id) → I5 id = I id := fun id hid => by rw [e4 id (by omega) (by omega) (by omega), f3 id (by omega), fJ id (by omega)]
      refine hQ I5 (h.set ⟨by rw [f5 7 (by omega)]; exact g3, fun j hj => by rw [f5 8 (by omega)]; exact g4 j hj, ?_, ?_⟩ a5 (h3.fr (fun id a b => e4 id (by omega) (by omega) (by omega))) (fun id hid => e0 id (by omega))) (fun id hid => e0 id (by omega))
      · rw [f5 7 (by omega), g2 2 (by decide), f3 7 (by omega)]; exact h2.1.2.2.1
      · rw [f5 7 (by omega), g2 3 (by decide), f3 7 (by omega)]; exact h2.1.2.2.2
    · rw [if_pos (by omega)] at hQ
      exact hQ I2 h2 (fun id hid => fJ id (by omega))
  · rw [if_pos (by omega)] at hQ; exact hQ I h (fun _ _ => rfl)
/-- reads -/
def OpReads (S : Sta) (v : Int) (S' : Sta) : Prop := (∃ e : Nat, rerr S.2.2.2.1 (0, 0, [kE]) kE 0 = some e ∧ v = -10 - (e : Int) ∧ S' = S) ∨ (rerr S.2.2.2.1 (0, 0, [kE]) kE 0 = none ∧ ∃ H', prog H' ∧ tk H' = nb S.2.2.2.1 ∧ v = (H'.length : Int) ∧ S' = ((H', S.1.2), (phN S.2.1.1, phH S.2.1.1 S.2.1.2 S.1), S.2.2.1, [], S.2.2.2.2))
theorem rerr_le : ∀ (l : List Int) (s : PS) (T : KS) (i e : Nat), rerr l s T i = some e → e ≤ i + l.length := by
  intro l
  induction l with
  | nil =>
    intro s T i e h
    unfold rerr at h
    split at h
    · cases h
    · cases h; simp
  | cons c l ih =>
    intro s T i e h
    unfold rerr at h
    simp only [List.length_cons]
    split at h
    · have := ih _ _ _ _ h; omega
    · split at h
      · cases h; omega
      · have := ih _ _ _ _ h; omega
theorem C_reads (hG : Good S) (h : RelC I S) (hQ : ∀ v S' I', OpReads S v S' → RelC I' S' → FrHi I I' → Q (some (.inl v)) I') : R 78 0 [(0, .inr (some 0))] [] I Q := by
  have hw := hG.2.2.2.2.1
  refine t78_0 I ?_
  rw [h.2.2.2.2.1.1]
  refine R_fault hw h.2.2.2.2.1.2 (fun e he I1 f1 => ⟨_, rfl, fun z => absurd z (by omega), fun _ => ?_⟩) (fun he I1 f1 g1 g2 => ⟨_, rfl, fun _ => ?_, fun z => absurd (by decide) z⟩)
  · have := rerr_le _ _ _ _ _ he
    rw [wrap_of (by omega) (by omega)]
    exact hQ _ S I1 (Or.inl ⟨e, he, rfl, rfl⟩) (h.fr (fun id hid => f1 id (by omega))) (fun id hid => f1 id (by omega))
  · obtain ⟨H', hH', hk⟩ := read_prog hw he
    have h1 := h.fr (J := I1) (fun id hid => f1 id (by omega))
    refine R_remember h1.2.2.1 h1.1 hG.1.2.2.2 (fun I2 h2 f2 => ⟨rfl, ?_⟩)
    rw [← hk] at g1 g2
    rw [f2 2 (by omega), g1]
    refine R_hold (m := 7) (sg := 3) (Or.inl ⟨rfl, by omega⟩) hH'.2.2.2 (fun j hj => by rw [f2 3 (by omega)]; exact g2 j hj) (fun I3 k1 k2 k3 k4 => ⟨rfl, ?_⟩)
    dsimp only
    generalize hJ : upd2 I3 0 1 0 = J
    have ji : ∀ id, id ≠ 0 → J id = I3 id := fun id a => by rw [← hJ, upd2_id a]
    have j0 : ∀ k, k ≠ 1 → J 0 k = I3 0 k := fun k a => by rw [← hJ, upd2_at, if_neg (fun q => a q.2)]
    refine R_analyse hH' (I := J) ⟨by rw [ji 7 (by decide)]; exact k3, fun j hj => by rw [ji 8 (by decide)]; exact k4 j hj⟩ (fun I5 a5 f5 => ⟨rfl, ?_⟩)
    rw [show I5 9 0 = (H'.length : Int) from a5.1.1]
    have e4 : ∀ id, id ≠ 0 → id ≠ 7 → id ≠ 8 → (id < 9 ∨ 25 < id) → I5 id = I2 id := fun id z a b c => by rw [f5 id c, ji id z, k1 id a b]
    have e0 : ∀ id, id ≠ 0 → (id < 2 ∨ 70 ≤ id) → I5 id = I id := fun id z hid => by rw [e4 id z (by omega) (by omega) (by omega), f2 id (by omega), f1 id (by omega)]
    have e00 : ∀ k, k ≠ 1 → I5 0 k = I 0 k := fun k hk => by rw [f5 0 (by omega), j0 k hk, k1 0 (by decide) (by decide), f2 0 (by omega), f1 0 (by omega)]
    obtain ⟨-, -, -, h4, h5, h6, h7⟩ := id h
    refine hQ _ _ I5 (Or.inr ⟨he, H', hH', hk, rfl, rfl⟩) ⟨⟨by rw [f5 7 (by omega), ji 7 (by decide)]; exact k3, fun j hj => by rw [f5 8 (by omega), ji 8 (by decide)]; exact k4 j hj, ?_, ?_⟩, a5, h2.fr (fun id a b => e4 id (by omega) (by omega) (by omega) (by omega)), h4.fr (fun id a b => e0 id (by omega) (by omega)), ⟨by rw [f5 0 (by omega), ← hJ]; simp [upd2], fun j hj => absurd hj (by simp)⟩, ⟨by rw [e00 13 (by decide)]; exact h6.1, fun j hj => by rw [e0 75 (by omega) (by omega), e0 76 (by omega) (by omega)]; exact h6.2 j hj⟩, by rw [e00 14 (by decide)]; exact h7⟩ (fun id hid => e0 id (by omega) (by omega))
    · rw [f5 7 (by omega), ji 7 (by decide), k2 2 (by decide), f2 7 (by omega)]; exact h1.1.2.2.1
    · rw [f5 7 (by omega), ji 7 (by decide), k2 3 (by decide), f2 7 (by omega)]; exact h1.1.2.2.2
/-- keep, back -/
def oKeep (i : Int) (S : Sta) : Int × Sta := if ¬ (0 ≤ i ∧ i ≤ 1) then (-1, S) else ((S.1.1.length : Int), (S.1, S.2.1, ((fun j => if j = i.toNat then true else S.2.2.1.1 j), (fun j => if j = i.toNat then S.1 else S.2.2.1.2 j)), S.2.2.2))
theorem img_rf {i : Nat} (h : i < 2) : rf 69 i = some (70 + 2 * i) := by
  rcases (by omega : i = 0 ∨ i = 1) with rfl | rfl <;> rfl
theorem R_img {k : Nat} {i : Int} (h1 : 0 ≤ i ∧ i ≤ 1 → Q (some (.inr (some (70 + 2 * i.toNat)))) I) (h2 : ¬ (0 ≤ i ∧ i ≤ 1) → Q (some (.inr none)) I) (_ : k = 0) : R 105 0 [(0, .inr (some 69)), (1, .inl i)] [] I Q := by
  refine R_momentAt rfl ?_
  by_cases hi : 0 ≤ i ∧ i ≤ 1
  · rw [if_pos ⟨hi.1, by show _ < (2 : Int); omega⟩, img_rf (by omega)]
    exact h1 hi
  · rw [if_neg (fun z => hi ⟨z.1, by have : i < (2 : Int) := z.2; omega⟩)]
    exact h2 hi
theorem C_keep {i : Int} (hG : Good S) (h : RelC I S) (hQ : ∀ I', RelC I' (oKeep i S).2 → FrHi I I' → Q (some (.inl (oKeep i S).1)) I') : R 97 0 [(0, .inr (some 0)), (1, .inl i)] [] I Q := by
  unfold oKeep at hQ
  refine t97_0 I _ (R_img (k := 0) (fun hi => ?_) (fun hi => ?_) rfl)
  · rw [if_neg (fun z => z hi)] at hQ
    show R 97 8 _ [.inr (some (70 + 2 * i.toNat))] I Q
    have hm : 70 + 2 * i.toNat = 70 ∨ 70 + 2 * i.toNat = 72 := by omega
    refine t97_8m _ hm I _ (R_become (m := 70 + 2 * i.toNat) (o := 7) (Or.inr ⟨rfl, by omega⟩) hG.1.2.2.2 h.1 (fun I1 f1 m1 => ⟨rfl, ?_⟩))
    dsimp only
    have w74 : wr I1 74 i 1 = upd2 I1 74 i.toNat 1 := by
      rw [show i = ((i.toNat : Nat) : Int) by omega, wr_nat (by show _ < 2; omega)]
      rfl
    rw [w74]
    generalize hJ : upd2 I1 74 i.toNat 1 = J
    have ji : ∀ id, id ≠ 74 → J id = I1 id := fun id a => by rw [← hJ, upd2_id a]
    have jf : ∀ id, id ≠ 74 → id ≠ 70 + 2 * i.toNat → id ≠ 70 + 2 * i.toNat + 1 → J id = I id := fun id a b c => by rw [ji id a, f1 id b c]
    have j74 : ∀ j, J 74 j = if j = i.toNat then 1 else I 74 j := fun j => by
      have : J 74 j = if j = i.toNat then 1 else I1 74 j := by rw [← hJ]; simp [upd2]
      rw [this, f1 74 (by omega) (by omega)]
    obtain ⟨h1, h2, h3, h4, h5, h6, h7⟩ := id h
    rw [show J 9 0 = (S.1.1.length : Int) by rw [jf 9 (by omega) (by omega) (by omega)]; exact h2.1.1]
    refine hQ J ⟨h1.fr (jf 7 (by omega) (by omega) (by omega)) (jf 8 (by omega) (by omega) (by omega)), h2.fr (fun id a b => jf id (by omega) (by omega) (by omega)), h3.fr (fun id a b => jf id (by omega) (by omega) (by omega)), fun j hj => ?_, ⟨by rw [jf 0 (by omega) (by omega) (by omega)]; exact h5.1, fun j hj => by rw [jf 1 (by omega) (by omega) (by omega)]; exact h5.2 j hj⟩, ⟨by rw [jf 0 (by omega) (by omega) (by omega)]; exact h6.1, fun j hj => by rw [jf 75 (by omega) (by omega) (by omega), jf 76 (by omega) (by omega) (by omega)]; exact h6.2 j hj⟩, by rw [jf 0 (by omega) (by omega) (by omega)]; exact h7⟩ (fun id hid => jf id (by omega) (by omega) (by omega))
    rw [j74]
    show (_ = b2i (if j = i.toNat then true else S.2.2.1.1 j)) ∧ ((if j = i.toNat then true else S.2.2.1.1 j) = true → Mom J (70 + 2 * j) (if j = i.toNat then S.1 else S.2.2.1.2 j))
    by_cases hji : j = i.toNat
    · rw [if_pos hji, if_pos hji, if_pos hji]
      rw [hji]
      exact ⟨rfl, fun _ => m1.fr (ji _ (by omega)) (ji _ (by omega))⟩
    · rw [if_neg hji, if_neg hji, if_neg hji]
      exact ⟨(h4 j hj).1, fun z => ((h4 j hj).2 z).fr (jf _ (by omega) (by omega) (by omega)) (jf _ (by omega) (by omega) (by omega))⟩
  · rw [if_pos hi] at hQ
    exact t97_8n I _ (hQ I h (fun _ _ => rfl))
def oBack (i : Int) (S : Sta) : Int × Sta := if ¬ (0 ≤ i ∧ i ≤ 1) then (-1, S) else if S.2.2.1.1 i.toNat = false then (-2, S) else (((S.2.2.1.2 i.toNat).1.length : Int), setS S (S.2.2.1.2 i.toNat) 0 S.2.1.2)
theorem C_back {i : Int} (hG : Good S) (h : RelC I S) (hQ : ∀ I', RelC I' (oBack i S).2 → FrHi I I' → Q (some (.inl (oBack i S).1)) I') : R 98 0 [(0, .inr (some 0)), (1, .inl i)] [] I Q := by
  unfold oBack at hQ
  refine t98_0 I _ (R_img (k := 0) (fun hi => ?_) (fun hi => ?_) rfl)
  · rw [if_neg (fun z => z hi)] at hQ
    show R 98 8 _ [.inr (some (70 + 2 * i.toNat))] I Q
    have hm : 70 + 2 * i.toNat = 70 ∨ 70 + 2 * i.toNat = 72 := by omega
    have hi4 := h.2.2.2.1 i.toNat (by omega)
    have r74 : rd I 74 i = b2i (S.2.2.1.1 i.toNat) := by
      rw [show i = ((i.toNat : Nat) : Int) by omega, rd_nat (by show _ < 2; omega), toNat_c]
      exact hi4.1
    refine t98_8m _ hm I _ ?_
    rw [r74]
    refine ⟨fun z => ?_, fun z => ?_⟩
    · have z := nob2i.mp z
      have hP := hG.2.2.2.1 i.toNat (by omega) z
      rw [if_neg (by rw [z]; decide)] at hQ
      refine R_become (m := 7) (o := 70 + 2 * i.toNat) (Or.inl ⟨rfl, by omega⟩) hP.2.2.2 (hi4.2 z) (fun I1 f1 m1 => ⟨rfl, ?_⟩)
      dsimp only
      generalize hJ : upd2 I1 51 2 0 = J
      have ji : ∀ id, id ≠ 51 → J id = I1 id := fun id a => by rw [← hJ, upd2_id a]
      refine R_analyse hP (I := J) ⟨by rw [ji 7 (by decide)]; exact m1.1, fun j hj => by rw [ji 8 (by decide)]; exact m1.2.1 j hj⟩ (fun I2 a2 f2 => ⟨rfl, ?_⟩)
      rw [show I2 9 0 = ((S.2.2.1.2 i.toNat).1.length : Int) from a2.1.1]
      obtain ⟨c1, c2, o, c3, c4, c5⟩ := h.2.2.1
      have hc : HistC I2 0 S.2.1.2 := ⟨by omega, by rw [f2 51 (by omega), ← hJ]; simp [upd2], o, c3, by rw [f2 51 (by omega), ← hJ, upd2_at, if_neg (by decide), f1 51 (by omega) (by omega)]; exact c4, fun k hk => absurd hk (by omega)⟩
      exact hQ I2 (h.set (m1.fr (by rw [f2 7 (by omega), ji 7 (by decide)]) (by rw [f2 8 (by omega), ji 8 (by decide)])) a2 hc (fun id hid => by rw [f2 id (by omega), ji id (by omega), f1 id (by omega) (by omega)])) (fun id hid => by rw [f2 id (by omega), ji id (by omega), f1 id (by omega) (by omega)])
    · have z : S.2.2.1.1 i.toNat = false := by
        cases hh : S.2.2.1.1 i.toNat with
        | false => rfl
        | true => rw [hh] at z; exact absurd (by decide) z
      rw [if_pos z] at hQ
      exact hQ I h (fun _ _ => rfl)
  · rw [if_pos hi] at hQ
    exact t98_8n I _ (hQ I h (fun _ _ => rfl))
end Acts
