/-! The class's reader. -/
theorem sz4 : sz 4 = 60 := rfl
theorem sz5 : sz 5 = 60 := rfl
theorem sz6 : sz 6 = 60 := rfl
theorem sz3 : sz 3 = 60 := rfl
theorem sz1 : sz 1 = 60 := rfl
abbrev Ent1 : Type := Nat × Int32 × Int32
def RowC (I : Mem) : List Ent1 → Prop
  | [] => True
  | e :: st => e.1 ≤ 2 ∧ I 4 st.length = ((e.1 + 1 : Nat) : Int) ∧ I 5 st.length = e.2.1.toInt ∧ I 6 st.length = e.2.2.toInt ∧ RowC I st
def dE (k : Int32 → List KS) (a b : Int32) : Nat → Int32 → List KS
  | 0, x => k (x &&& (b ^^^ m1))
  | m + 1, x => kb (x &&& (a ^^^ m1) ||| b) :: dE k a b m (x &&& (a ^^^ m1) ||| b)
/-- what is due behind the present expression -/
def dlI : List Ent1 → Int32 → List KS
  | [], _ => []
  | e :: st, x => dE (dlI st) e.2.1 e.2.2 e.1 x
theorem RowC.keep {I J : Mem} : ∀ {st : List Ent1}, RowC I st → (∀ id, id = 4 ∨ id = 5 ∨ id = 6 → ∀ j, j < st.length → J id j = I id j) → RowC J st := by
  intro st
  induction st with
  | nil => intro _ _; trivial
  | cons e st ih =>
    intro h he
    obtain ⟨h0, h1, h2, h3, h4⟩ := h
    simp only [List.length_cons] at he
    exact ⟨h0, by rw [he 4 (by omega) _ (by omega)]; exact h1, by rw [he 5 (by omega) _ (by omega)]; exact h2, by rw [he 6 (by omega) _ (by omega)]; exact h3, ih h4 (fun id hid j hj => he id hid j (by omega))⟩
def FrR (I I' : Mem) : Prop := (∀ id, id ≠ 2 → id ≠ 4 → id ≠ 5 → id ≠ 6 → I' id = I id) ∧ I' 2 1 = I 2 1
theorem FrR.rfl' {I : Mem} : FrR I I := ⟨fun _ _ _ _ _ => rfl, rfl⟩
theorem FrR.trans {I J K : Mem} (h : FrR I J) (h2 : FrR J K) : FrR I K := ⟨fun id a b c d => (h2.1 id a b c d).trans (h.1 id a b c d), h2.2.trans h.2⟩
theorem R_end {Q : Post} : ∀ (st : List Ent1) (k : Nat) (x : Int32) (I : Mem), k + st.length ≤ 60 → I 2 7 = x.toInt → I 2 5 = (st.length : Int) → RowC I st →
    (∀ (I' : Mem) (x' : Int32) (st' : List Ent1), FrR I I' → I' 2 8 = I 2 8 → I' 2 7 = x'.toInt → I' 2 5 = (st'.length : Int) → RowC I' st' → st'.length ≤ st.length → ((dlI st x = [] ∧ I' 2 6 = 5 ∧ st' = []) ∨ (I' 2 6 = 0 ∧ dlI st x = kb x' :: dlI st' x')) → Q none I') →
    R 50 2 [(0, .inr (some 2)), (1, .inl (k : Int))] [] I Q := by
  intro st
  induction st with
  | nil =>
    intro k x I hk h7 h5 hR hQ
    have fin : Q none (upd2 I 2 6 5) := hQ _ x [] ⟨fun id a _ _ _ => upd2_id a, by simp [upd2]⟩ (by simp [upd2]) (by simp [upd2]; exact h7) (by simp [upd2]; exact h5) trivial (Nat.le_refl _) (Or.inl ⟨rfl, by simp [upd2], rfl⟩)
    exact t50_2 I _ ⟨fun _ => fin, fun _ => ⟨fun _ => fin, fun q => absurd (by rw [h5]; simp) q⟩⟩
  | cons e st ih =>
    intro k x I hk h7 h5 hR hQ
    obtain ⟨m, a, b⟩ := e
    obtain ⟨r0, r1, r2, r3, r4⟩ := hR
    have r0 : m ≤ 2 := r0
    simp only [List.length_cons] at hk h5
    have et : wrap (I 2 5 - 1) = (st.length : Int) := by rw [h5, wrap_pred (by omega)]
    have r4' : rd I 4 (st.length : Int) = ((m + 1 : Nat) : Int) := by rw [rd_nat (by rw [sz4]; omega)]; exact r1
    refine t50_2 I _ ⟨fun q => absurd q (by omega), fun _ => ⟨fun q => absurd q (by rw [h5]; omega), fun _ => ?_⟩⟩
    dsimp only
    rw [et, r4', wrap_pred (by omega), wr_nat (id := 4) (by rw [sz4]; omega)]
    generalize hJ : upd2 I 4 st.length (m : Int) = J
    have ej : ∀ id, id ≠ 4 → J id = I id := fun id h => by rw [← hJ]; exact upd2_id h
    have e6 : rd J 6 (st.length : Int) = b.toInt := by rw [rd_nat (by rw [sz6]; omega), ej 6 (by decide)]; exact r3
    have e5 : rd J 5 (st.length : Int) = a.toInt := by rw [rd_nat (by rw [sz5]; omega), ej 5 (by decide)]; exact r2
    rw [e6, e5, ej 2 (by decide), h7, toInt_xor1, toInt_xor1, toInt_and, toInt_and, toInt_or]
    refine ⟨fun q => ?_, fun q => ?_⟩
    · have hm0 : m = 0 := by omega
      subst hm0
      generalize hK : upd2 J 2 7 (x &&& (b ^^^ m1)).toInt = K
      have k2 : ∀ r, r ≠ 7 → K 2 r = I 2 r := fun r hr => by rw [← hK, upd2_at, if_neg (fun z => hr z.2), ej 2 (by decide)]
      have k7 : K 2 7 = (x &&& (b ^^^ m1)).toInt := by rw [← hK]; simp [upd2]
      have ki : ∀ id, id ≠ 2 → id ≠ 4 → K id = I id := fun id h1 h2 => by rw [← hK, upd2_id h1, ej id h2]
      have k4 : ∀ j, j < st.length → K 4 j = I 4 j := fun j hj => by rw [← hK, upd2_id (by decide), ← hJ, upd2_at, if_neg (by omega)]
      rw [k2 5 (by decide), et, wrap_succ (by omega)]
      generalize hN : upd2 K 2 5 (st.length : Int) = N
      have n2 : ∀ r, r ≠ 5 → N 2 r = K 2 r := fun r hr => by rw [← hN, upd2_at, if_neg (fun z => hr z.2)]
      have n5 : N 2 5 = (st.length : Int) := by rw [← hN]; simp [upd2]
      have ni : ∀ id, id ≠ 2 → N id = K id := fun id h1 => by rw [← hN, upd2_id h1]
      have fr : FrR I N := ⟨fun id a1 a2 _ _ => by rw [ni id a1, ki id a1 a2], by rw [n2 1 (by decide), k2 1 (by decide)]⟩
      have hrow : RowC N st := r4.keep (fun id hid j hj => by
        rcases hid with rfl | rfl | rfl
        · rw [ni 4 (by decide)]; exact k4 j hj
        · rw [ni 5 (by decide), ki 5 (by decide) (by decide)]
        · rw [ni 6 (by decide), ki 6 (by decide) (by decide)])
      refine ih (k + 1) (x &&& (b ^^^ m1)) N (by omega) (by rw [n2 7 (by decide)]; exact k7) n5 hrow (fun I' x' st' f1 f2 f3 f4 f5 f6 f7 => hQ I' x' st' (fr.trans f1) (by rw [f2, n2 8 (by decide), k2 8 (by decide)]) f3 f4 f5 (by simp only [List.length_cons]; omega) f7)
    · obtain ⟨m', rfl⟩ : ∃ m', m = m' + 1 := ⟨m - 1, by omega⟩
      generalize hK : upd2 J 2 7 (x &&& (a ^^^ m1) ||| b).toInt = K
      have k2 : ∀ r, r ≠ 7 → K 2 r = I 2 r := fun r hr => by rw [← hK, upd2_at, if_neg (fun z => hr z.2), ej 2 (by decide)]
      have k7 : K 2 7 = (x &&& (a ^^^ m1) ||| b).toInt := by rw [← hK]; simp [upd2]
      have ki : ∀ id, id ≠ 2 → id ≠ 4 → K id = I id := fun id h1 h2 => by rw [← hK, upd2_id h1, ej id h2]
      have k4 : ∀ j, K 4 j = if j = st.length then ((m' + 1 : Nat) : Int) else I 4 j := fun j => by rw [← hK, upd2_id (by decide), ← hJ, upd2_at]; by_cases hj : j = st.length <;> simp [hj]
      generalize hN : upd2 K 2 6 0 = N
      have n2 : ∀ r, r ≠ 6 → N 2 r = K 2 r := fun r hr => by rw [← hN, upd2_at, if_neg (fun z => hr z.2)]
      have n6 : N 2 6 = 0 := by rw [← hN]; simp [upd2]
      have ni : ∀ id, id ≠ 2 → N id = K id := fun id h1 => by rw [← hN, upd2_id h1]
      refine hQ N (x &&& (a ^^^ m1) ||| b) ((m', a, b) :: st) ⟨fun id a1 a2 _ _ => by rw [ni id a1, ki id a1 a2], by rw [n2 1 (by decide), k2 1 (by decide)]⟩ (by rw [n2 8 (by decide), k2 8 (by decide)]) (by rw [n2 7 (by decide)]; exact k7) (by rw [n2 5 (by decide), k2 5 (by decide), h5]; rfl) ⟨by show m' ≤ 2; omega, ?_, ?_, ?_, r4.keep (fun id hid j hj => ?_)⟩ (Nat.le_refl _) (Or.inr ⟨n6, rfl⟩)
      · rw [ni 4 (by decide), k4, if_pos rfl]
      · rw [ni 5 (by decide), ki 5 (by decide) (by decide)]; exact r2
      · rw [ni 6 (by decide), ki 6 (by decide) (by decide)]; exact r3
      · rcases hid with rfl | rfl | rfl
        · rw [ni 4 (by decide), k4, if_neg (by omega)]
        · rw [ni 5 (by decide), ki 5 (by decide) (by decide)]
        · rw [ni 6 (by decide), ki 6 (by decide) (by decide)]

theorem R_open {I : Mem} {x a b : Int32} {st : List Ent1} {m : Nat} {p1 p2 p3 : Int} {Q : Post} (h7 : I 2 7 = x.toInt) (h5 : I 2 5 = (st.length : Int)) (hR : RowC I st) (hl : st.length < 60) (hm : m ≤ 2) (e1 : p1 = ((m + 1 : Nat) : Int)) (e2 : p2 = a.toInt) (e3 : p3 = b.toInt)
    (hQ : ∀ I', FrR I I' → I' 2 8 = I 2 8 → I' 2 7 = (x ||| a).toInt → I' 2 5 = (((m, a, b) :: st).length : Int) → RowC I' ((m, a, b) :: st) → I' 2 6 = 0 → Q none I') :
    R 49 0 [(0, .inr (some 2)), (1, .inl p1), (2, .inl p2), (3, .inl p3)] [] I Q := by
  subst e1 e2 e3
  refine t49_0 I _ _ _ ?_
  dsimp only
  have w4 : ∀ (J : Mem) v, wr J 4 (st.length : Int) v = upd2 J 4 st.length v := fun J v => wr_nat (by rw [sz4]; exact hl)
  have w5 : ∀ (J : Mem) v, wr J 5 (st.length : Int) v = upd2 J 5 st.length v := fun J v => wr_nat (by rw [sz5]; exact hl)
  have w6 : ∀ (J : Mem) v, wr J 6 (st.length : Int) v = upd2 J 6 st.length v := fun J v => wr_nat (by rw [sz6]; exact hl)
  have q1 : ∀ v, upd2 I 4 st.length v 2 5 = (st.length : Int) := fun v => by rw [← h5]; simp [upd2]
  have q2 : ∀ v w, upd2 (upd2 I 4 st.length v) 5 st.length w 2 5 = (st.length : Int) := fun v w => by rw [← h5]; simp [upd2]
  have q3 : ∀ v w y, upd2 (upd2 (upd2 I 4 st.length v) 5 st.length w) 6 st.length y 2 5 = (st.length : Int) := fun v w y => by rw [← h5]; simp [upd2]
  rw [h5, w4, q1, w5, q2, w6, q3, wrap_succ (by omega)]
  generalize hJ : upd2 (upd2 (upd2 (upd2 I 4 st.length ((m + 1 : Nat) : Int)) 5 st.length a.toInt) 6 st.length b.toInt) 2 5 ((st.length + 1 : Nat) : Int) = J
  have j2 : ∀ r, r ≠ 5 → J 2 r = I 2 r := fun r hr => by rw [← hJ]; simp [upd2, hr]
  have j5' : J 2 5 = ((st.length + 1 : Nat) : Int) := by rw [← hJ]; simp [upd2]
  have ji : ∀ id, id ≠ 2 → id ≠ 4 → id ≠ 5 → id ≠ 6 → J id = I id := fun id h1 h2 h3 h4 => by rw [← hJ, upd2_id h1, upd2_id h4, upd2_id h3, upd2_id h2]
  have j4 : ∀ j, J 4 j = if j = st.length then ((m + 1 : Nat) : Int) else I 4 j := fun j => by rw [← hJ]; simp [upd2]
  have j5 : ∀ j, J 5 j = if j = st.length then a.toInt else I 5 j := fun j => by rw [← hJ]; simp [upd2]
  have j6 : ∀ j, J 6 j = if j = st.length then b.toInt else I 6 j := fun j => by rw [← hJ]; simp [upd2]
  rw [j2 7 (by decide), h7, toInt_or]
  generalize hK : upd2 (upd2 J 2 7 (x ||| a).toInt) 2 6 0 = K
  have k2 : ∀ r, r ≠ 7 → r ≠ 6 → K 2 r = J 2 r := fun r h1 h2 => by rw [← hK]; simp [upd2, h1, h2]
  have ki : ∀ id, id ≠ 2 → K id = J id := fun id h1 => by rw [← hK, upd2_id h1, upd2_id h1]
  refine hQ K ⟨fun id a1 a2 a3 a4 => by rw [ki id a1, ji id a1 a2 a3 a4], by rw [k2 1 (by decide) (by decide), j2 1 (by decide)]⟩ (by rw [k2 8 (by decide) (by decide), j2 8 (by decide)]) (by rw [← hK]; simp [upd2]) (by rw [k2 5 (by decide) (by decide), j5']; rfl) ⟨hm, ?_, ?_, ?_, hR.keep (fun id hid j hj => ?_)⟩ (by rw [← hK]; simp [upd2])
  · rw [ki 4 (by decide), j4, if_pos rfl]
  · rw [ki 5 (by decide), j5, if_pos rfl]
  · rw [ki 6 (by decide), j6, if_pos rfl]
  · rcases hid with rfl | rfl | rfl
    · rw [ki 4 (by decide), j4, if_neg (by omega)]
    · rw [ki 5 (by decide), j5, if_neg (by omega)]
    · rw [ki 6 (by decide), j6, if_neg (by omega)]
theorem R_introduces {I : Mem} {t : Int32} {c : Int} {Q : Post} (hc : nam c = true) (h8 : I 2 8 = t.toInt) (hQ1 : kb t c = true → Q (some (.inl 0)) (upd2 I 2 8 (t ||| bt c).toInt)) (hQ2 : kb t c = false → Q (some (.inl 1)) (upd2 I 2 8 (t ||| bt c).toInt)) : R 48 0 [(0, .inr (some 2)), (1, .inl c)] [] I Q := by
  refine t48_0 I _ ?_
  dsimp only
  rw [h8]
  have e := and_bit (x := t) hc
  rw [e, bitc_bt hc, toInt_or]
  refine ⟨fun q => ⟨Or.inl rfl, hQ1 (by simpa using q)⟩, fun q => ⟨Or.inr rfl, hQ2 (by simpa using q)⟩⟩
/-- the class's reader in a state of reading; n letters were read -/
def CR (I : Mem) (s : PS) (T : KS) (n : Nat) : Prop := ∃ (x t : Int32) (st : List Ent1), I 2 7 = x.toInt ∧ I 2 8 = t.toInt ∧ I 2 5 = (st.length : Int) ∧ RowC I st ∧ kb t = T ∧ st.length ≤ n ∧ (∀ G ∈ s.2.2, ∀ c, G c = true → T c = true) ∧
  ((s.2.2 = [] ∧ I 2 6 = 5 ∧ st = []) ∨ (I 2 6 = (s.1 : Int) ∧ s.1 ≤ 4 ∧ s.2.2 = kb x :: dlI st x ∧ (s.1 = 3 → I 2 9 = (bt s.2.1).toInt ∧ isFun s.2.1 = true ∧ T s.2.1 = true ∧ kb x s.2.1 = false)))
