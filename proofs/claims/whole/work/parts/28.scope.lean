/-! What is known at each expression of a program. -/
/-- a program: one expression without names from outside, each name told once -/
def bcnt (c : Int) (h : Hd) : Nat := (if h.1 = 58 ∧ h.2.1 = c then 1 else 0) + (if h.1 = 64 ∧ h.2.1 = c then 1 else 0) + (if h.1 = 64 ∧ h.2.2 = c then 1 else 0)
def bc (c : Int) (H : List Hd) : Nat := (H.map (bcnt c)).sum
def prog (H : List Hd) : Prop := ex kE H ∧ norm H ∧ (∀ c, bc c H ≤ 1) ∧ (tk H).length ≤ 60
def Kf (H : List Hd) (p : Nat) : KS := match fl [kE] (H.take p) with
  | some (G :: _) => G
  | _ => kE
theorem prog_wfa {H : List Hd} (h : prog H) : wfa H := by
  have := ex_en [] h.1
  rw [List.append_nil] at this
  exact this
theorem prog_60 {H : List Hd} (h : prog H) : H.length ≤ 60 := Nat.le_trans (len_tk H) h.2.2.2
theorem prog_pos {H : List Hd} (h : prog H) : 0 < H.length := List.length_pos_iff.mpr (ex_ne h.1)
theorem fl_at {H : List Hd} (h : ex kE H) {p : Nat} (hp : p < H.length) : ∃ Gs Ss, fl [kE] (H.take p) = some (Kf H p :: Gs) ∧ cs (Kf H p) (hdA H p) = some Ss ∧ fl (Kf H p :: Gs) (H.drop p) = some [] ∧ fl (Ss ++ Gs) (H.drop (p + 1)) = some [] := by
  have e : fl [kE] (H.take p ++ H.drop p) = some [] := by rw [List.take_append_drop]; exact h
  rw [fl_app] at e
  cases hf : fl [kE] (H.take p) with
  | none => rw [hf] at e; cases e
  | some Rs =>
    rw [hf] at e
    have e : fl Rs (H.drop p) = some [] := e
    rw [drop_cons hp] at e
    cases Rs with
    | nil => cases e
    | cons G Gs =>
      have hK : Kf H p = G := by unfold Kf; rw [hf]
      obtain ⟨Ss, h1, h2⟩ := fl_cons.mp e
      rw [hK]
      exact ⟨Gs, Ss, rfl, h1, by rw [drop_cons hp]; exact e, h2⟩
theorem fl_skip {G : KS} {Gs : List KS} {l : List Hd} (h : fl (G :: Gs) l = some []) : fl Gs (l.drop (en 1 l)) = some [] ∧ ex G (l.take (en 1 l)) := by
  obtain ⟨B, C, rfl, e1, e2⟩ := fl_split (Gs := [G]) h
  have := (ex_en C e1).2
  rw [this, List.drop_left, List.take_left]
  exact ⟨e2, e1⟩
/-- the heads of an expression's parts, one behind the other -/
theorem fl_kids {H : List Hd} (h : ex kE H) (hw : wfa H) {p : Nat} (hp : p < H.length) {Gs Ss : List KS} (hf : fl [kE] (H.take p) = some (Kf H p :: Gs)) (hc : cs (Kf H p) (hdA H p) = some Ss) :
    ∀ j, j ≤ pts (lt H p) → fl [kE] (H.take (kp H p j)) = some (Ss.drop j ++ Gs) := by
  have hl : Ss.length = pts (lt H p) := cs_len hc
  intro j
  induction j with
  | zero =>
    intro _
    rw [kp_zero, take_succ_hd hp, fl_app, hf]
    show fl (Kf H p :: Gs) [hdA H p] = _
    rw [fl_cons.mpr ⟨Ss, hc, fl_nil _⟩]
    rfl
  | succ j ih =>
    intro hj
    have h1 := ih (by omega)
    have hk := kp_len hw hp (j := j) (by omega)
    have hdr : Ss.drop j = Ss[j]'(by omega) :: Ss.drop (j + 1) := List.drop_eq_getElem_cons (by omega)
    have e : fl [kE] (H.take (kp H p j) ++ H.drop (kp H p j)) = some [] := by rw [List.take_append_drop]; exact h
    rw [fl_app, h1, hdr] at e
    have e : fl (Ss[j]'(by omega) :: (Ss.drop (j + 1) ++ Gs)) (H.drop (kp H p j)) = some [] := e
    have h3 := (fl_skip e).2
    have ht : H.take (kp H p (j + 1)) = H.take (kp H p j) ++ (H.drop (kp H p j)).take (sp H (kp H p j)) := by
      rw [kp_succ, List.take_add]
    rw [ht, fl_app, h1, hdr]
    show fl (Ss[j]'(by omega) :: (Ss.drop (j + 1) ++ Gs)) _ = _
    have := ex_fl (Gs := Ss.drop (j + 1) ++ Gs) (B := []) h3
    rw [List.append_nil] at this
    unfold sp
    rw [this, fl_nil]
/-- what is known in a part -/
theorem Kf_kid {H : List Hd} (h : ex kE H) (hw : wfa H) {p j : Nat} (hp : p < H.length) (hj : j < pts (lt H p)) {Ss : List KS} (hc : cs (Kf H p) (hdA H p) = some Ss) : some (Kf H (kp H p j)) = Ss[j]? := by
  obtain ⟨Gs, Ss2, f1, f2, -, -⟩ := fl_at h hp
  rw [hc] at f2
  cases f2
  have hl : Ss.length = pts (lt H p) := cs_len hc
  have h1 := fl_kids h hw hp f1 hc j (by omega)
  have hdr : Ss.drop j = Ss[j]'(by omega) :: Ss.drop (j + 1) := List.drop_eq_getElem_cons (by omega)
  rw [hdr] at h1
  unfold Kf
  rw [h1, List.getElem?_eq_getElem (by omega)]
  rfl
theorem Kf_0 (H : List Hd) : Kf H 0 = kE := by unfold Kf; simp [fl]
/-- the kinds of the heads of a program -/
theorem hd_cases {H : List Hd} (h : ex kE H) {p : Nat} (hp : p < H.length) :
    (isDig (lt H p) = true ∨ isInp (lt H p) = true ∨ (isVal (lt H p) = true ∧ Kf H p (lt H p) = true)) ∨ (isOpr (lt H p) = true) ∨ (lt H p = 63) ∨
    (lt H p = 58 ∧ isVal (nm H p) = true) ∨ (lt H p = 64 ∧ isFun (nm H p) = true ∧ isVal (pm H p) = true) ∨ (lt H p = 33 ∧ isFun (nm H p) = true ∧ Kf H p (nm H p) = true) := by
  obtain ⟨Gs, Ss, -, f2, -, -⟩ := fl_at h hp
  rcases cs_cases f2 with ⟨h1, -⟩ | ⟨h1, -⟩ | ⟨h1, -⟩ | ⟨h1, h2, -⟩ | ⟨h1, h2, h3, -⟩ | ⟨h1, h2, h3, -⟩
  · exact Or.inl h1
  · exact Or.inr (Or.inl h1)
  · exact Or.inr (Or.inr (Or.inl h1))
  · exact Or.inr (Or.inr (Or.inr (Or.inl ⟨h1, h2⟩)))
  · exact Or.inr (Or.inr (Or.inr (Or.inr (Or.inl ⟨h1, h2, h3⟩))))
  · exact Or.inr (Or.inr (Or.inr (Or.inr (Or.inr ⟨h1, h2, h3⟩))))
theorem fun_range {c : Int} (h : isFun c = true) : 65 ≤ c ∧ c ≤ 70 := by simpa [isFun] using h
theorem def_fun {H : List Hd} (h : ex kE H) {p : Nat} (hp : p < H.length) (hl : lt H p = 64) : isFun (nm H p) = true ∧ isVal (pm H p) = true := by
  rcases hd_cases h hp with (h1 | h1 | h1) | h1 | h1 | h1 | h1 | h1
  · exact absurd hl (isDig_not h1).2.2.2.2.2.2.1
  · exact absurd hl (isInp_not h1).2.2.2.2.2.2.1
  · exact absurd hl (isVal_not h1.1).2.2.2.2.2.2.1
  · exact absurd hl (isOpr_not h1).2.2.2.2.2.2.1
  · omega
  · omega
  · exact h1.2
  · omega
theorem call_fun {H : List Hd} (h : ex kE H) {p : Nat} (hp : p < H.length) (hl : lt H p = 33) : isFun (nm H p) = true ∧ Kf H p (nm H p) = true := by
  rcases hd_cases h hp with (h1 | h1 | h1) | h1 | h1 | h1 | h1 | h1
  · exact absurd hl (isDig_not h1).2.2.2.2.2.2.2
  · exact absurd hl (isInp_not h1).2.2.2.2.2.2.2
  · exact absurd hl (isVal_not h1.1).2.2.2.2.2.2.2
  · exact absurd hl (isOpr_not h1).2.2.2.2.2.2.2
  · omega
  · omega
  · omega
  · exact h1.2
