/-! The tree of a list of heads: spans, kids, the parts around a part. -/
def hdA (H : List Hd) (p : Nat) : Hd := H.getD p (0, 0, 0)
def lt (H : List Hd) (p : Nat) : Int := (hdA H p).1
def nm (H : List Hd) (p : Nat) : Int := (hdA H p).2.1
def pm (H : List Hd) (p : Nat) : Int := (hdA H p).2.2
/-- how many expressions the expression p has -/
def sp (H : List Hd) (p : Nat) : Nat := en 1 (H.drop p)
/-- the number of the part j of p -/
def kp (H : List Hd) (p j : Nat) : Nat := p + 1 + en j (H.drop (p + 1))
/-- the heads are one expression -/
def wfa (H : List Hd) : Prop := okn 1 H ∧ en 1 H = H.length
theorem suf : ∀ (l : List Hd) (k p : Nat), okn k l → p < en k l → ∃ k', okn (k' + 1) (l.drop p) ∧ p + en (k' + 1) (l.drop p) = en k l := by
  intro l
  induction l with
  | nil => intro k p h hp; cases k <;> simp [en] at hp
  | cons h t ih =>
    intro k p ho hp
    cases k with
    | zero => simp [en] at hp
    | succ k =>
      cases p with
      | zero => exact ⟨k, ho, by simp⟩
      | succ p =>
        simp only [en] at hp ⊢
        simp only [okn] at ho
        obtain ⟨k', h1, h2⟩ := ih (k + pts h.1) p ho (by omega)
        exact ⟨k', by rw [List.drop_succ_cons]; exact h1, by rw [List.drop_succ_cons]; omega⟩
section Tr
variable {H : List Hd}
theorem drop_cons {p : Nat} (hp : p < H.length) : H.drop p = hdA H p :: H.drop (p + 1) := by
  rw [List.drop_eq_getElem_cons hp]
  congr 1
  unfold hdA
  rw [List.getD_eq_getElem?_getD, List.getElem?_eq_getElem hp]
  rfl
theorem okn_drop (hw : wfa H) {p : Nat} (hp : p < H.length) : okn 1 (H.drop p) := by
  obtain ⟨k', h1, -⟩ := suf H 1 p hw.1 (by rw [hw.2]; exact hp)
  rw [show k' + 1 = 1 + k' by omega] at h1
  exact ((okn_add _ 1 k').mp h1).1
theorem sp_pos (hw : wfa H) {p : Nat} (hp : p < H.length) : 0 < sp H p := en_pos (okn_drop hw hp)
theorem sp_le {p : Nat} (hp : p ≤ H.length) : p + sp H p ≤ H.length := by
  have := en_le (H.drop p) 1
  rw [List.length_drop] at this
  unfold sp
  omega
theorem sp_0 (hw : wfa H) : sp H 0 = H.length := hw.2
theorem kp_zero {p : Nat} : kp H p 0 = p + 1 := by unfold kp; rw [en_zero]
theorem kp_succ {p j : Nat} : kp H p (j + 1) = kp H p j + sp H (kp H p j) := by
  unfold kp sp
  rw [en_add, List.drop_drop]
  omega
theorem sp_eq {p : Nat} (hp : p < H.length) : sp H p = 1 + en (pts (lt H p)) (H.drop (p + 1)) := by
  unfold sp
  rw [drop_cons hp]
  simp only [en, Nat.zero_add]
  rfl
theorem kp_last {p : Nat} (hp : p < H.length) : kp H p (pts (lt H p)) = p + sp H p := by
  rw [sp_eq hp]
  unfold kp
  omega
theorem okn_kids (hw : wfa H) {p : Nat} (hp : p < H.length) : okn (pts (lt H p)) (H.drop (p + 1)) := by
  have := okn_drop hw hp
  rw [drop_cons hp] at this
  simp only [okn, Nat.zero_add] at this
  exact this
theorem okn_kp (hw : wfa H) {p j : Nat} (hp : p < H.length) (hj : j < pts (lt H p)) : okn 1 (H.drop (kp H p j)) := by
  have h1 := okn_kids hw hp
  rw [show pts (lt H p) = j + (1 + (pts (lt H p) - j - 1)) by omega] at h1
  have h2 := ((okn_add _ _ _).mp h1).2
  have h3 := ((okn_add _ _ _).mp h2).1
  rw [List.drop_drop] at h3
  exact h3
theorem kp_step (hw : wfa H) {p j : Nat} (hp : p < H.length) (hj : j < pts (lt H p)) : kp H p j < kp H p (j + 1) := by
  rw [kp_succ]
  have := en_pos (okn_kp hw hp hj)
  unfold sp
  omega
theorem kp_mono (hw : wfa H) {p : Nat} (hp : p < H.length) : ∀ {j i : Nat}, j ≤ i → i ≤ pts (lt H p) → kp H p j ≤ kp H p i := by
  intro j i hji
  induction i with
  | zero => intro _; rw [Nat.le_zero.mp hji]; exact Nat.le_refl _
  | succ i ih =>
    intro hi
    by_cases h : j = i + 1
    · rw [h]; exact Nat.le_refl _
    · have h1 := ih (by omega) (by omega)
      have h2 := kp_step hw hp (j := i) (by omega)
      omega
theorem kp_smono (hw : wfa H) {p : Nat} (hp : p < H.length) {j i : Nat} (hji : j < i) (hi : i ≤ pts (lt H p)) : kp H p j < kp H p i := by
  have h1 := kp_step hw hp (j := j) (by omega)
  have h2 := kp_mono hw hp (j := j + 1) (i := i) (by omega) hi
  omega
theorem kp_lt (hw : wfa H) {p j : Nat} (hp : p < H.length) (hj : j < pts (lt H p)) : kp H p j < p + sp H p := by
  rw [← kp_last hp]
  exact kp_smono hw hp hj (Nat.le_refl _)
theorem kp_len (hw : wfa H) {p j : Nat} (hp : p < H.length) (hj : j < pts (lt H p)) : kp H p j < H.length := by
  have h1 := kp_lt hw hp hj
  have h2 := sp_le (H := H) (p := p) (by omega)
  omega
theorem kp_gt {p j : Nat} : p < kp H p j := by unfold kp; omega
theorem kp_inj (hw : wfa H) {p : Nat} (hp : p < H.length) {j i : Nat} (hj : j ≤ pts (lt H p)) (hi : i ≤ pts (lt H p)) (h : kp H p j = kp H p i) : j = i := by
  rcases Nat.lt_trichotomy j i with h1 | h1 | h1
  · have := kp_smono hw hp h1 hi; omega
  · exact h1
  · have := kp_smono hw hp h1 hj; omega
/-- what begins within an expression ends within it -/
theorem nest (hw : wfa H) {c b : Nat} (hc : c < H.length) (h1 : c ≤ b) (h2 : b < c + sp H c) : b + sp H b ≤ c + sp H c := by
  obtain ⟨k', g1, g2⟩ := suf (H.drop c) 1 (b - c) (okn_drop hw hc) (by unfold sp at h2; omega)
  rw [List.drop_drop, show c + (b - c) = b by omega, show k' + 1 = 1 + k' by omega, en_add] at g2
  unfold sp
  omega
/-- which part of p holds b -/
theorem in_kid (hw : wfa H) {p b : Nat} (hp : p < H.length) (h1 : p < b) (h2 : b < p + sp H p) : ∃ j, j < pts (lt H p) ∧ kp H p j ≤ b ∧ b < kp H p (j + 1) := by
  have key : ∀ n, n ≤ pts (lt H p) → b < kp H p n → ∃ j, j < n ∧ kp H p j ≤ b ∧ b < kp H p (j + 1) := by
    intro n
    induction n with
    | zero => intro _ h; rw [kp_zero] at h; omega
    | succ n ih =>
      intro hn h
      by_cases hb : b < kp H p n
      · obtain ⟨j, a1, a2⟩ := ih (by omega) hb
        exact ⟨j, by omega, a2⟩
      · exact ⟨n, by omega, by omega, h⟩
  obtain ⟨j, a1, a2⟩ := key _ (Nat.le_refl _) (by rw [kp_last hp]; exact h2)
  exact ⟨j, a1, a2⟩
/-- each part but the whole is a part of one before it -/
theorem kp_surj (hw : wfa H) : ∀ q, 0 < q → q < H.length → ∃ p j, p < q ∧ j < pts (lt H p) ∧ kp H p j = q := by
  intro q
  induction q using Nat.strongRecOn with
  | _ q ih =>
    intro h0 hq
    have climb : ∀ r, r < q → r + sp H r = q → ∃ p j, p < q ∧ j < pts (lt H p) ∧ kp H p j = q := by
      intro r
      induction r using Nat.strongRecOn with
      | _ r ihr =>
        intro hr he
        have hr0 : 0 < r := by
          rcases Nat.eq_zero_or_pos r with h | h
          · subst h; rw [sp_0 hw] at he; omega
          · exact h
        obtain ⟨p, j, a1, a2, a3⟩ := ih r hr hr0 (by omega)
        have e1 : kp H p (j + 1) = q := by rw [kp_succ, a3]; exact he
        by_cases hj : j + 1 < pts (lt H p)
        · exact ⟨p, j + 1, by omega, hj, e1⟩
        · have e2 : j + 1 = pts (lt H p) := by omega
          rw [e2, kp_last (by omega)] at e1
          exact ihr p a1 (by omega) e1
    by_cases hl : 0 < pts (lt H (q - 1))
    · exact ⟨q - 1, 0, by omega, hl, by rw [kp_zero]; omega⟩
    · refine climb (q - 1) (by omega) ?_
      have e1 := kp_last (H := H) (p := q - 1) (by omega)
      rw [show pts (lt H (q - 1)) = 0 by omega, kp_zero] at e1
      omega
/-- and of one alone -/
theorem kp_uniq (hw : wfa H) {a b j i : Nat} (ha : a < H.length) (hb : b < H.length) (hj : j < pts (lt H a)) (hi : i < pts (lt H b)) (h : kp H a j = kp H b i) : a = b ∧ j = i := by
  have key : ∀ {a b j i : Nat}, a < H.length → b < H.length → j < pts (lt H a) → i < pts (lt H b) → kp H a j = kp H b i → ¬ a < b := by
    intro a b j i ha hb hj hi h hab
    have g1 : b < kp H b i := kp_gt
    have g2 := kp_lt hw ha hj
    obtain ⟨j2, c1, c2, c3⟩ := in_kid hw ha hab (by omega)
    have hjj : j2 < j := by
      rcases Nat.lt_or_ge j2 j with h3 | h3
      · exact h3
      · have := kp_mono hw ha h3 (by omega); omega
    have c4 := kp_mono hw ha (j := j2 + 1) (i := j) (by omega) (by omega)
    rw [kp_succ] at c3 c4
    have c5 := nest hw (kp_len hw ha c1) c2 c3
    have c6 := kp_lt hw hb hi
    omega
  have hab : a = b := by
    rcases Nat.lt_trichotomy a b with h1 | h1 | h1
    · exact absurd h1 (key ha hb hj hi h)
    · exact h1
    · exact absurd h1 (key hb ha hi hj h.symm)
  subst hab
  exact ⟨rfl, kp_inj hw ha (by omega) (by omega) h⟩
end Tr
