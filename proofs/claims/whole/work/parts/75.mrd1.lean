/-! The model's reader: its tasks. -/
def tskOK (t : Int) : Prop := t = 0 ∨ (∃ c, nam c = true ∧ t = 1000 + c) ∨ (∃ c, nam c = true ∧ t = 2000 + c)
def RowM (I : Mem) : List Int → Prop
  | [] => True
  | t :: ts => I 85 ts.length = t ∧ tskOK t ∧ RowM I ts
def del (K : KS) (c : Int) : KS := fun d => !(decide (d = c)) && K d
def mdl : List Int → KS → List KS
  | [], _ => []
  | t :: ts, K => if t = 0 then K :: mdl ts K else if t < 2000 then mdl ts (ins K (t - 1000)) else mdl ts (del K (t - 2000))
theorem del_ins {K : KS} {c : Int} (h : K c = false) : del (ins K c) c = K := by
  funext d
  unfold del ins
  by_cases e : d = c
  · subst e; simp [h]
  · simp [e]
theorem nam_rng {c : Int} (h : nam c = true) : 65 ≤ c ∧ c ≤ 104 := by
  have := nam_cases h
  omega
theorem RowM.keep {I J : Mem} : ∀ {ts : List Int}, RowM I ts → (∀ j, j < ts.length → J 85 j = I 85 j) → RowM J ts := by
  intro ts
  induction ts with
  | nil => intro _ _; trivial
  | cons t ts ih =>
    intro h he
    obtain ⟨h1, h2, h3⟩ := h
    simp only [List.length_cons] at he
    exact ⟨by rw [he _ (by omega)]; exact h1, h2, ih h3 (fun j hj => he j (by omega))⟩
def Pst (I : Mem) (ts : List Int) : Prop := I 77 13 = (ts.length : Int) ∧ RowM I ts
def KA (I : Mem) (id : Nat) (K : KS) : Prop := ∀ j : Nat, j < 128 → I id j = b2i (K (j : Int))
theorem KA_put {I J : Mem} {id : Nat} {K : KS} {c : Int} (h : KA I id K) (hc : nam c = true) (e : J id = upd2 I id c.toNat 1 id) : KA J id (ins K c) := by
  intro j hj
  have := nam_rng hc
  rw [e, upd2_at]
  by_cases hjc : j = c.toNat
  · rw [if_pos ⟨rfl, hjc⟩]
    have : (j : Int) = c := by omega
    rw [this, ins_self]; rfl
  · rw [if_neg (fun q => hjc q.2), h j hj]
    have : ¬ (j : Int) = c := by omega
    unfold ins
    simp [this]
theorem KA_del {I J : Mem} {id : Nat} {K : KS} {c : Int} (h : KA I id K) (hc : nam c = true) (e : J id = upd2 I id c.toNat 0 id) : KA J id (del K c) := by
  intro j hj
  have := nam_rng hc
  rw [e, upd2_at]
  by_cases hjc : j = c.toNat
  · rw [if_pos ⟨rfl, hjc⟩]
    have : (j : Int) = c := by omega
    unfold del
    simp [this, b2i]
  · rw [if_neg (fun q => hjc q.2), h j hj]
    have : ¬ (j : Int) = c := by omega
    unfold del
    simp [this]
theorem KA_at {I : Mem} {id : Nat} {K : KS} {c : Int} (h : KA I id K) (hc : nam c = true) : I id c.toNat = b2i (K c) := by
  have hr := nam_rng hc
  have := h c.toNat (by omega)
  rw [show ((c.toNat : Nat) : Int) = c by omega] at this
  exact this
theorem inb_nam {c : Int} (hc : nam c = true) : inb c 128 := by
  have := nam_rng hc
  exact ⟨by omega, by omega⟩
theorem push_ok {I : Mem} {ts : List Int} {t : Int} (h : Pst I ts) (hl : ts.length < 400) (ht : tskOK t) : inb (I 77 13) 400 ∧ Pst (upd2 (upd2 I 85 (I 77 13).toNat t) 77 13 (wrap (I 77 13 + 1))) (t :: ts) ∧ (∀ id, id ≠ 77 → id ≠ 85 → upd2 (upd2 I 85 (I 77 13).toNat t) 77 13 (wrap (I 77 13 + 1)) id = I id) ∧ (∀ k, k ≠ 13 → upd2 (upd2 I 85 (I 77 13).toNat t) 77 13 (wrap (I 77 13 + 1)) 77 k = I 77 k) := by
  rw [h.1, toNat_c, wrap_succ (by omega)]
  refine ⟨inb_nat hl, ⟨?_, ?_, ht, h.2.keep (fun j hj => ?_)⟩, fun id a b => by rw [upd2_id a, upd2_id b], fun k hk => ?_⟩
  · rw [upd2_at, if_pos ⟨rfl, rfl⟩]; rfl
  · simp [upd2]
  · rw [upd2_id (by decide), upd2_at, if_neg (by omega)]
  · rw [upd2_at, if_neg (fun q => hk q.2), upd2_id (by decide)]
/-- all tasks that are no parts are done -/
theorem R_goesOn {Q : Post} : ∀ (ts : List Int) (K : KS) (I : Mem), ts.length ≤ 400 → Pst I ts → KA I 87 K →
    (∀ (I' : Mem) (K' : KS) (ts' : List Int), (∀ id, id ≠ 77 → id ≠ 87 → I' id = I id) → (∀ k, k ≠ 13 → I' 77 k = I 77 k) → Pst I' ts' → KA I' 87 K' → ts'.length ≤ ts.length → mdl ts K = mdl ts' K' → (ts' = [] ∨ ∃ r, ts' = 0 :: r) → Q none I') →
    R 117 0 [(0, .inr (some 77))] [] I Q := by
  intro ts
  induction ts with
  | nil =>
    intro K I hl hP hK hQ
    exact t117_0 I ⟨fun _ => hQ I K [] (fun _ _ _ => rfl) (fun _ _ => rfl) hP hK (Nat.le_refl _) rfl (Or.inl rfl), fun z => absurd (by rw [hP.1]; simp) z⟩
  | cons t ts ih =>
    intro K I hl hP hK hQ
    obtain ⟨p1, p2, p3, p4⟩ := hP
    simp only [List.length_cons] at p1 hl
    have e13 : wrap (I 77 13 - 1) = (ts.length : Int) := by rw [p1, wrap_pred (by omega)]
    refine t117_0 I ⟨fun z => absurd z (by rw [p1]; omega), fun _ => ?_⟩
    rw [e13, toNat_c, p2]
    refine ⟨inb_nat (by omega), fun z => hQ I K (t :: ts) (fun _ _ _ => rfl) (fun _ _ => rfl) ⟨p1, p2, p3, p4⟩ hK (Nat.le_refl _) rfl (Or.inr ⟨ts, by rw [z]⟩), fun z => ?_⟩
    dsimp only
    generalize hJ : upd2 I 77 13 (ts.length : Int) = J
    have ji : ∀ id, id ≠ 77 → J id = I id := fun id h => by rw [← hJ]; exact upd2_id h
    have j7 : ∀ k, k ≠ 13 → J 77 k = I 77 k := fun k h => by rw [← hJ, upd2_at, if_neg (fun q => h q.2)]
    have j13 : J 77 13 = (ts.length : Int) := by rw [← hJ]; simp [upd2]
    rw [j13, toNat_c, ji 85 (by decide), p2]
    refine ⟨inb_nat (by omega), fun z2 => ?_, fun z2 => ?_⟩
    · rcases p3 with rfl | ⟨c, hc, rfl⟩ | ⟨c, hc, rfl⟩
      · exact absurd rfl z
      · have hr := nam_rng hc
        rw [show wrap (1000 + c - 1000) = c by rw [wrap_of (by omega) (by omega)]; omega]
        refine ⟨inb_nam hc, Or.inr rfl, ?_⟩
        refine ih (ins K c) _ (by omega) ⟨by rw [upd2_id (by decide)]; exact j13, p4.keep (fun j _ => by rw [upd2_id (by decide), ji 85 (by decide)])⟩ (KA_put hK hc (by funext j; rw [upd2_at, upd2_at, ji 87 (by decide)])) (fun I' K' ts' a1 a2 a3 a4 a5 a6 a7 => hQ I' K' ts' (fun id h1 h2 => by rw [a1 id h1 h2, upd2_id h2, ji id h1]) (fun k hk => by rw [a2 k hk, upd2_id (by decide), j7 k hk]) a3 a4 (by simp only [List.length_cons]; omega) ?_ a7)
        rw [← a6]
        show (if 1000 + c = 0 then _ else if 1000 + c < 2000 then mdl ts (ins K (1000 + c - 1000)) else _) = _
        rw [if_neg (by omega), if_pos (by omega), show 1000 + c - 1000 = c by omega]
      · have hr := nam_rng hc
        omega
    · rcases p3 with rfl | ⟨c, hc, rfl⟩ | ⟨c, hc, rfl⟩
      · exact absurd rfl z
      · have hr := nam_rng hc
        omega
      · have hr := nam_rng hc
        rw [show wrap (2000 + c - 2000) = c by rw [wrap_of (by omega) (by omega)]; omega]
        refine ⟨inb_nam hc, Or.inl rfl, ?_⟩
        refine ih (del K c) _ (by omega) ⟨by rw [upd2_id (by decide)]; exact j13, p4.keep (fun j _ => by rw [upd2_id (by decide), ji 85 (by decide)])⟩ (KA_del hK hc (by funext j; rw [upd2_at, upd2_at, ji 87 (by decide)])) (fun I' K' ts' a1 a2 a3 a4 a5 a6 a7 => hQ I' K' ts' (fun id h1 h2 => by rw [a1 id h1 h2, upd2_id h2, ji id h1]) (fun k hk => by rw [a2 k hk, upd2_id (by decide), j7 k hk]) a3 a4 (by simp only [List.length_cons]; omega) ?_ a7)
        rw [← a6]
        show (if 2000 + c = 0 then _ else if 2000 + c < 2000 then _ else mdl ts (del K (2000 + c - 2000))) = _
        rw [if_neg (by omega), if_neg (by omega), show 2000 + c - 2000 = c by omega]
/-- the model's reader in a state of reading, N: of its tasks -/
def MRg (N : List Int → Prop) (I : Mem) (s : PS) (T : KS) (n : Nat) : Prop := ∃ (K : KS) (ts : List Int), KA I 87 K ∧ KA I 86 T ∧ Pst I ts ∧ ts.length ≤ 1 + 6 * n ∧ (∀ G ∈ s.2.2, ∀ c, G c = true → T c = true) ∧
  ((s.1 = 0 ∧ I 77 18 = 0 ∧ s.2.2 = mdl ts K ∧ N ts) ∨ (s.2.2 = K :: mdl ts K ∧ ((s.1 = 1 ∧ I 77 18 = 1 ∧ I 77 19 = 58) ∨ (s.1 = 2 ∧ I 77 18 = 2) ∨ (s.1 = 3 ∧ I 77 18 = 1 ∧ I 77 19 = s.2.1 ∧ isFun s.2.1 = true ∧ T s.2.1 = true ∧ K s.2.1 = false) ∨ (s.1 = 4 ∧ I 77 18 = 3))))
def nrm (ts : List Int) : Prop := ts = [] ∨ ∃ r, ts = 0 :: r
def FrMd (I I' : Mem) : Prop := (∀ id, id ≠ 77 → (id < 85 ∨ 88 < id) → I' id = I id) ∧ (∀ k, (k < 13 ∨ 19 < k) → I' 77 k = I 77 k)
theorem FrMd.rfl' {I : Mem} : FrMd I I := ⟨fun _ _ _ => rfl, fun _ _ => rfl⟩
theorem FrMd.trans {I J K : Mem} (h : FrMd I J) (h2 : FrMd J K) : FrMd I K := ⟨fun id a b => (h2.1 id a b).trans (h.1 id a b), fun k a => (h2.2 k a).trans (h.2 k a)⟩
/-- what one letter changes, but for the row of letters read -/
def FrMe (I I' : Mem) : Prop := (∀ id, id ≠ 77 → id ≠ 85 → id ≠ 86 → id ≠ 87 → I' id = I id) ∧ (∀ k, k ≠ 13 → k ≠ 18 → k ≠ 19 → I' 77 k = I 77 k)
theorem FrMe.rfl' {I : Mem} : FrMe I I := ⟨fun _ _ _ _ _ => rfl, fun _ _ _ _ => rfl⟩
theorem FrMe.trans {I J K : Mem} (h : FrMe I J) (h2 : FrMe J K) : FrMe I K := ⟨fun id a b c d => (h2.1 id a b c d).trans (h.1 id a b c d), fun k a b c => (h2.2 k a b c).trans (h.2 k a b c)⟩
