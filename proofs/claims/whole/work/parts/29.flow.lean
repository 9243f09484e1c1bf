/-! Tail expressions, bodies, returns: what they are. -/
def TailRec (H : List Hd) (f g : Nat → Int) : Prop := f 0 = 1 ∧ g 0 = 0 ∧ ∀ a j, a < H.length → j < pts (lt H a) →
  (f (kp H a j) = if lt H a = 64 ∧ j = 0 then 1 else if (lt H a = 63 ∨ lt H a = 58 ∨ lt H a = 64) ∧ j ≠ 0 then f a else 0) ∧
  (g (kp H a j) = if lt H a = 64 ∧ j = 0 then nm H a else g a)
theorem TailRec.uniq {H : List Hd} (hw : wfa H) {f g f' g' : Nat → Int} (h : TailRec H f g) (h' : TailRec H f' g') : ∀ q, q < H.length → f q = f' q ∧ g q = g' q := by
  intro q
  induction q using Nat.strongRecOn with
  | _ q ih =>
    intro hq
    rcases Nat.eq_zero_or_pos q with h0 | h0
    · subst h0
      exact ⟨h.1.trans h'.1.symm, h.2.1.trans h'.2.1.symm⟩
    · obtain ⟨a, j, a1, a2, a3⟩ := kp_surj hw q h0 hq
      have ha : a < H.length := by omega
      obtain ⟨e1, e2⟩ := h.2.2 a j ha a2
      obtain ⟨e3, e4⟩ := h'.2.2 a j ha a2
      rw [← a3, e1, e2, e3, e4, (ih a a1 ha).1, (ih a a1 ha).2]
      exact ⟨rfl, rfl⟩
noncomputable def TB (H : List Hd) : (Nat → Int) × (Nat → Int) := Classical.epsilon (fun fg : (Nat → Int) × (Nat → Int) => TailRec H fg.1 fg.2)
noncomputable def tl (H : List Hd) (q : Nat) : Int := (TB H).1 q
noncomputable def bd (H : List Hd) (q : Nat) : Int := (TB H).2 q
theorem TB_rec {H : List Hd} {f g : Nat → Int} (h : TailRec H f g) : TailRec H (tl H) (bd H) := Classical.epsilon_spec (p := fun fg : (Nat → Int) × (Nat → Int) => TailRec H fg.1 fg.2) ⟨(f, g), h⟩
theorem TB_eq {H : List Hd} (hw : wfa H) {f g : Nat → Int} (h : TailRec H f g) : ∀ q, q < H.length → f q = tl H q ∧ g q = bd H q := TailRec.uniq hw h (TB_rec h)
theorem tl_01 {H : List Hd} (hw : wfa H) (h : TailRec H (tl H) (bd H)) : ∀ q, q < H.length → tl H q = 0 ∨ tl H q = 1 := by
  intro q
  induction q using Nat.strongRecOn with
  | _ q ih =>
    intro hq
    rcases Nat.eq_zero_or_pos q with h0 | h0
    · subst h0; exact Or.inr h.1
    · obtain ⟨a, j, a1, a2, a3⟩ := kp_surj hw q h0 hq
      have e1 := (h.2.2 a j (by omega) a2).1
      rw [a3] at e1
      rw [e1]
      split
      · exact Or.inr rfl
      · split
        · exact ih a a1 (by omega)
        · exact Or.inl rfl
theorem bd_fun {H : List Hd} (he : ex kE H) (hw : wfa H) (h : TailRec H (tl H) (bd H)) : ∀ q, q < H.length → bd H q = 0 ∨ isFun (bd H q) = true := by
  intro q
  induction q using Nat.strongRecOn with
  | _ q ih =>
    intro hq
    rcases Nat.eq_zero_or_pos q with h0 | h0
    · subst h0; exact Or.inl h.2.1
    · obtain ⟨a, j, a1, a2, a3⟩ := kp_surj hw q h0 hq
      have e1 := (h.2.2 a j (by omega) a2).2
      rw [a3] at e1
      rw [e1]
      split
      next hc => exact Or.inr (def_fun he (by omega) hc.1).1
      next => exact ih a a1 (by omega)
/-! returns: b f is the return of the function f -/
noncomputable def giv (H : List Hd) (b : Nat → Int) (p : Nat) : Int := if tl H p = 0 then (p : Int) else if bd H p = 0 then -13 else b (bd H p - 65).toNat
def fnr (H : List Hd) (p : Nat) : Nat := (nm H p - 65).toNat
/-- does the call p change the returns -/
def chg (H : List Hd) (b : Nat → Int) (p : Nat) : Prop := lt H p = 33 ∧ ¬ (giv H b p = -11 ∨ giv H b p = b (fnr H p) ∨ b (fnr H p) = -12)
def newb (H : List Hd) (b : Nat → Int) (p : Nat) (v : Int) : Nat → Int := fun x => if x = fnr H p then v else b x
noncomputable def stepR (H : List Hd) (b : Nat → Int) (p : Nat) : Nat → Int := @ite _ (chg H b p) (Classical.propDecidable _) (newb H b p (if b (fnr H p) = -11 then giv H b p else -12)) b
noncomputable def passR (H : List Hd) (b : Nat → Int) : Nat → (Nat → Int)
  | 0 => b
  | n + 1 => stepR H (passR H b n) n
/-- is something changed in the first n -/
def chgN (H : List Hd) (b : Nat → Int) : Nat → Prop
  | 0 => False
  | n + 1 => chgN H b n ∨ chg H (passR H b n) n
noncomputable def itR (H : List Hd) : Nat → (Nat → Int)
  | 0 => fun _ => -11
  | n + 1 => passR H (itR H n) H.length
noncomputable def rt (H : List Hd) : Nat → Int := itR H 13
theorem stepR_pos {H : List Hd} {b : Nat → Int} {p : Nat} (h : chg H b p) : stepR H b p = newb H b p (if b (fnr H p) = -11 then giv H b p else -12) := by unfold stepR; rw [if_pos h]
theorem stepR_neg {H : List Hd} {b : Nat → Int} {p : Nat} (h : ¬ chg H b p) : stepR H b p = b := by unfold stepR; rw [if_neg h]
def rk (v : Int) : Nat := if v = -11 then 0 else if v = -12 then 2 else 1
def rank (b : Nat → Int) : Nat := rk (b 0) + rk (b 1) + rk (b 2) + rk (b 3) + rk (b 4) + rk (b 5)
theorem rk_le (v : Int) : rk v ≤ 2 := by
  unfold rk
  split
  · omega
  · split <;> omega
theorem rank_le (b : Nat → Int) : rank b ≤ 12 := by
  unfold rank
  have := rk_le (b 0); have := rk_le (b 1); have := rk_le (b 2); have := rk_le (b 3); have := rk_le (b 4); have := rk_le (b 5)
  omega
theorem rank_up {b : Nat → Int} {f : Nat} {v : Int} (hf : f < 6) (h : rk (b f) < rk v) : rank b < rank (fun x => if x = f then v else b x) := by
  unfold rank
  rcases (by omega : f = 0 ∨ f = 1 ∨ f = 2 ∨ f = 3 ∨ f = 4 ∨ f = 5) with rfl | rfl | rfl | rfl | rfl | rfl <;> simp <;> omega
theorem fnr_lt {H : List Hd} (he : ex kE H) {p : Nat} (hp : p < H.length) (hl : lt H p = 33) : fnr H p < 6 := by
  have := fun_range (call_fun he hp hl).1
  unfold fnr
  omega
theorem step_rank {H : List Hd} (he : ex kE H) {b : Nat → Int} {p : Nat} (hp : p < H.length) (h : chg H b p) : rank b < rank (stepR H b p) := by
  rw [stepR_pos h]
  obtain ⟨h1, h2⟩ := h
  have hf := fnr_lt he hp h1
  refine rank_up hf ?_
  split
  next h3 =>
    rw [h3]
    unfold rk
    rw [if_pos rfl]
    split
    next h4 => exact absurd (Or.inl h4) h2
    next => split <;> omega
  next h3 =>
    unfold rk
    rw [if_neg h3]
    split
    next h4 => exact absurd (Or.inr (Or.inr h4)) h2
    next => simp
theorem pass_rank {H : List Hd} (he : ex kE H) {b : Nat → Int} : ∀ n, n ≤ H.length → (¬ chgN H b n → passR H b n = b) ∧ (chgN H b n → rank b < rank (passR H b n)) ∧ rank b ≤ rank (passR H b n) := by
  intro n
  induction n with
  | zero => intro _; exact ⟨fun _ => rfl, fun h => h.elim, Nat.le_refl _⟩
  | succ n ih =>
    intro hn
    obtain ⟨h1, h2, h3⟩ := ih (by omega)
    refine ⟨fun h => ?_, fun h => ?_, ?_⟩
    · unfold passR
      rw [stepR_neg (fun q => h (Or.inr q))]
      exact h1 (fun q => h (Or.inl q))
    · rcases Classical.em (chg H (passR H b n) n) with hc | hc
      · have := step_rank he (by omega) hc
        unfold passR
        omega
      · rcases h with h | h
        · unfold passR
          rw [stepR_neg hc]
          exact h2 h
        · exact absurd h hc
    · rcases Classical.em (chg H (passR H b n) n) with hc | hc
      · have := step_rank he (by omega) hc
        unfold passR
        omega
      · unfold passR
        rw [stepR_neg hc]
        exact h3
/-- once a pass changes nothing, none does -/
theorem it_stable {H : List Hd} (he : ex kE H) {k : Nat} (h : ¬ chgN H (itR H k) H.length) : ∀ d, itR H (k + d) = itR H k := by
  have e : passR H (itR H k) H.length = itR H k := (pass_rank he _ (Nat.le_refl _)).1 h
  intro d
  induction d with
  | zero => rfl
  | succ d ih =>
    show passR H (itR H (k + d)) H.length = _
    rw [ih, e]
theorem it_rt {H : List Hd} (he : ex kE H) {k : Nat} (hk : k ≤ 13) (h : ¬ chgN H (itR H k) H.length) : itR H k = rt H := by
  have := it_stable he h (13 - k)
  rw [show k + (13 - k) = 13 by omega] at this
  exact this.symm
theorem it_rank {H : List Hd} (he : ex kE H) : ∀ k, (∀ i, i < k → chgN H (itR H i) H.length) → k ≤ rank (itR H k) := by
  intro k
  induction k with
  | zero => intro _; exact Nat.zero_le _
  | succ k ih =>
    intro h
    have h1 := ih (fun i hi => h i (by omega))
    have h2 := (pass_rank he (b := itR H k) _ (Nat.le_refl _)).2.1 (h k (by omega))
    show k + 1 ≤ rank (passR H (itR H k) H.length)
    omega
theorem it_12 {H : List Hd} (he : ex kE H) {k : Nat} (h : ∀ i, i < k → chgN H (itR H i) H.length) : k ≤ 12 := Nat.le_trans (it_rank he k h) (rank_le _)
/-- the expression that tells a function -/
def dfN (H : List Hd) (f : Nat) : Nat → Int
  | 0 => -9
  | n + 1 => if lt H n = 64 ∧ nm H n = 65 + (f : Int) then (n : Int) else dfN H f n
def df (H : List Hd) (f : Nat) : Int := dfN H f H.length
noncomputable def wy (H : List Hd) (p : Nat) : Int := if tl H p = 1 then 1 else if jmp (rt H (fnr H p)) = true then 2 else 3
def FlowOK (I : Mem) (H : List Hd) : Prop := (∀ p, p < H.length → I 21 p = tl H p ∧ I 22 p = bd H p ∧ (lt H p = 33 → I 23 p = wy H p)) ∧ (∀ f, f < 6 → I 24 f = df H f ∧ I 25 f = rt H f) ∧ TailRec H (tl H) (bd H)
