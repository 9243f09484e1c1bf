/-! The model's history. -/
def Blk (I : Mem) (id off : Nat) (s : Snap) : Prop := (∀ j, j < (tk s.1).length → I id (off + j) = (tk s.1).getD j 0) ∧ I id (off + 60) = ((tk s.1).length : Int) ∧ I id (off + 61) = s.2.1 ∧ I id (off + 62) = s.2.2
theorem Blk.copy {I J : Mem} {id id' off off' : Nat} {s : Snap} (h : Blk I id off s) (hx : (tk s.1).length ≤ 60) (e : ∀ j, j < 63 → J id' (off' + j) = I id (off + j)) : Blk J id' off' s := by
  refine ⟨fun j hj => by rw [e j (by omega)]; exact h.1 j hj, by rw [e 60 (by omega)]; exact h.2.1, by rw [e 61 (by omega)]; exact h.2.2.1, by rw [e 62 (by omega)]; exact h.2.2.2⟩
def HistM (I : Mem) (n : Nat) (h : Nat → Snap) : Prop := n ≤ 8 ∧ I 77 5 = (n : Int) ∧ ∀ k, k < n → Blk I 80 (63 * k) (h k)
theorem w63 {n i : Nat} (hn : n ≤ 8) (hi : i < 63) : wrap (wrap (63 * (n : Int)) + (i : Int)) = ((63 * n + i : Nat) : Int) := by
  rw [wrap_of (x := 63 * (n : Int)) (by omega) (by omega), wrap_of (by omega) (by omega)]
  omega
theorem note_loop {I0 : Mem} {n : Nat} (hn : n < 8) (h5 : I0 77 5 = (n : Int)) {Q : Post} (hQ : ∀ I', (∀ id, id ≠ 77 → id ≠ 80 → I' id = I0 id) → (∀ k, k ≠ 5 → I' 77 k = I0 77 k) → I' 77 5 = ((n + 1 : Nat) : Int) → (∀ j, I' 80 j = if 63 * n ≤ j ∧ j < 63 * n + 63 then I0 79 (j - 63 * n) else I0 80 j) → Q none I') :
    ∀ (d i : Nat) (I : Mem), i + d = 63 → (∀ id, id ≠ 80 → I id = I0 id) → (∀ j, I 80 j = if 63 * n ≤ j ∧ j < 63 * n + i then I0 79 (j - 63 * n) else I0 80 j) → R 135 51 [(0, .inr (some 77)), (1, .inl (i : Int))] [] I Q := by
  intro d
  induction d with
  | zero =>
    intro i I hi hF hD
    have hi : i = 63 := by omega
    subst hi
    refine t135_51 I _ ⟨fun _ => ?_, fun q => absurd (by omega) q⟩
    dsimp only
    rw [hF 77 (by decide), h5, wrap_succ (by omega)]
    refine hQ _ (fun id a b => by rw [upd2_id a]; exact hF id b) (fun k hk => by rw [upd2_at, if_neg (fun q => hk q.2), hF 77 (by decide)]) (by simp [upd2]) (fun j => by rw [upd2_id (by decide)]; exact hD j)
  | succ d ih =>
    intro i I hi hF hD
    have e5 : I 77 5 = (n : Int) := by rw [hF 77 (by decide)]; exact h5
    refine t135_51 I _ ⟨fun q => absurd q (by omega), fun _ => ⟨inb_nat (by omega), ?_⟩⟩
    rw [e5, w63 (by omega) (by omega), toNat_c, toNat_c, wrap_succ (by omega)]
    refine ⟨inb_nat (by omega), ?_⟩
    dsimp only
    refine ih (i + 1) _ (by omega) (fun id a => by rw [upd2_id a]; exact hF id a) (fun j => ?_)
    rw [upd2_at, hD j, hF 79 (by decide)]
    by_cases hj : j = 63 * n + i
    · rw [if_pos ⟨rfl, hj⟩, if_pos (by omega), show j - 63 * n = i by omega]
    · rw [if_neg (fun q => hj q.2)]
      by_cases h2 : 63 * n ≤ j ∧ j < 63 * n + i
      · rw [if_pos h2, if_pos (by omega)]
      · rw [if_neg h2, if_neg (by omega)]
theorem shift_loop {I0 : Mem} {Q : Post} (hQ : ∀ I', (∀ id, id ≠ 80 → I' id = I0 id) → (∀ j, j < 441 → I' 80 j = I0 80 (j + 63)) → R 135 11 [(0, .inr (some 77)), (1, .inl ((441 : Nat) : Int))] [] I' Q) :
    ∀ (d i : Nat) (I : Mem), i + d = 441 → (∀ id, id ≠ 80 → I id = I0 id) → (∀ j, I 80 j = if j < i then I0 80 (j + 63) else I0 80 j) → R 135 11 [(0, .inr (some 77)), (1, .inl (i : Int))] [] I Q := by
  intro d
  induction d with
  | zero =>
    intro i I hi hF hD
    have hi : i = 441 := by omega
    subst hi
    exact hQ I hF (fun j hj => by rw [hD j, if_pos hj])
  | succ d ih =>
    intro i I hi hF hD
    have e : wrap ((i : Int) + 63) = ((i + 63 : Nat) : Int) := by rw [wrap_of (by omega) (by omega)]; omega
    refine t135_11 I _ ⟨fun q => absurd q (by omega), fun _ => ?_⟩
    rw [e, toNat_c, toNat_c, wrap_succ (by omega)]
    refine ⟨inb_nat (by omega), inb_nat (by omega), ?_⟩
    dsimp only
    refine ih (i + 1) _ (by omega) (fun id a => by rw [upd2_id a]; exact hF id a) (fun j => ?_)
    rw [upd2_at, hD j, hD (i + 63), if_neg (show ¬ i + 63 < i by omega)]
    by_cases hj : j = i
    · rw [if_pos ⟨rfl, hj⟩, if_pos (by omega), hj]
    · rw [if_neg (fun q => hj q.2)]
      by_cases h2 : j < i
      · rw [if_pos h2, if_pos (by omega)]
      · rw [if_neg h2, if_neg (by omega)]
theorem R_notes {I : Mem} {n : Nat} {h : Nat → Snap} {s : Snap} (hH : HistM I n h) (hs : Blk I 79 0 s) (hx : ∀ k, k < n → (tk (h k).1).length ≤ 60) (hx2 : (tk s.1).length ≤ 60) {Q : Post} (hQ : ∀ I', HistM I' (phN n) (phH n h s) → (∀ id, id ≠ 77 → id ≠ 80 → I' id = I id) → (∀ k, k ≠ 5 → I' 77 k = I 77 k) → Q none I') :
    R 135 0 [(0, .inr (some 77))] [] I Q := by
  obtain ⟨n8, h5, hB⟩ := hH
  refine t135_0 I ⟨fun c => ?_, fun c => ?_⟩
  · have c : n ≠ 8 := by intro z; rw [h5, z] at c; exact c rfl
    refine note_loop (I0 := I) (n := n) (by omega) h5 (fun I' f1 f2 f3 f4 => hQ I' ⟨by unfold phN; rw [if_neg c]; omega, by unfold phN; rw [if_neg c]; exact f3, fun k hk => ?_⟩ f1 f2) 63 0 I (by omega) (fun _ _ => rfl) (fun j => by rw [if_neg (by omega)])
    unfold phN at hk
    unfold phH
    rw [if_neg c] at hk ⊢
    by_cases hkn : k < n
    · rw [if_pos hkn]
      exact (hB k hkn).copy (hx k hkn) (fun j hj => by rw [f4, if_neg (by omega)])
    · rw [if_neg hkn]
      have : k = n := by omega
      subst this
      exact hs.copy hx2 (fun j hj => by rw [f4, if_pos (by omega), show 63 * k + j - 63 * k = 0 + j by omega])
  · have c : n = 8 := by rw [h5] at c; omega
    subst c
    refine shift_loop (I0 := I) (fun I1 g1 g2 => ?_) 441 0 I (by omega) (fun _ _ => rfl) (fun j => by rw [if_neg (by omega)])
    refine t135_11 I1 _ ⟨fun _ => ?_, fun q => absurd (by decide) q⟩
    dsimp only
    have e7 : wrap (I1 77 5 - 1) = ((7 : Nat) : Int) := by rw [g1 77 (by decide), h5]; decide
    rw [e7]
    generalize hJ : upd2 I1 77 5 ((7 : Nat) : Int) = J
    have jf : ∀ id, id ≠ 77 → J id = I1 id := fun id a => by rw [← hJ]; exact upd2_id a
    have j5 : J 77 5 = ((7 : Nat) : Int) := by rw [← hJ]; simp [upd2]
    refine note_loop (I0 := J) (n := 7) (by omega) j5 (fun I' f1 f2 f3 f4 => hQ I' ⟨by unfold phN; rw [if_pos rfl]; omega, by unfold phN; rw [if_pos rfl]; exact f3, fun k hk => ?_⟩ (fun id a b => by rw [f1 id a b, jf id a, g1 id b]) (fun k hk => by rw [f2 k hk, ← hJ, upd2_at, if_neg (fun q => hk q.2), g1 77 (by decide)])) 63 0 J (by omega) (fun _ _ => rfl) (fun j => by rw [if_neg (by omega)])
    unfold phN at hk
    unfold phH
    rw [if_pos rfl] at hk ⊢
    by_cases hkn : k < 7
    · rw [if_pos hkn]
      exact (hB (k + 1) (by omega)).copy (hx (k + 1) (by omega)) (fun j hj => by rw [f4, if_neg (by omega), jf 80 (by decide), g2 _ (by omega), show 63 * k + j + 63 = 63 * (k + 1) + j by omega])
    · rw [if_neg hkn]
      have : k = 7 := by omega
      subst this
      exact hs.copy hx2 (fun j hj => by rw [f4, if_pos (by omega), show 63 * 7 + j - 63 * 7 = 0 + j by omega, jf 79 (by decide), g1 79 (by decide)])
