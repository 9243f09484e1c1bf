/-! Programs as lists of heads: an expression's letter and its names. -/
abbrev Hd : Type := Int × Int × Int
/-- the names known in each part of an expression; none: it can't stand there -/
def cs (G : KS) (h : Hd) : Option (List KS) :=
  if isDig h.1 = true ∨ isInp h.1 = true ∨ (isVal h.1 = true ∧ G h.1 = true) then some []
  else if isOpr h.1 = true then some [G, G]
  else if h.1 = 63 then some [G, G, G]
  else if h.1 = 58 then (if isVal h.2.1 = true then some [G, ins G h.2.1] else none)
  else if h.1 = 64 then (if isFun h.2.1 = true ∧ isVal h.2.2 = true then some [ins (ins G h.2.1) h.2.2, ins G h.2.1] else none)
  else if h.1 = 33 then (if isFun h.2.1 = true ∧ G h.2.1 = true then some [G] else none)
  else none
def fl : List KS → List Hd → Option (List KS)
  | Gs, [] => some Gs
  | [], _ :: _ => none
  | G :: Gs, h :: t => match cs G h with
    | none => none
    | some Ss => fl (Ss ++ Gs) t
/-- one expression -/
def ex (G : KS) (A : List Hd) : Prop := fl [G] A = some []
theorem fl_cons {G : KS} {Gs Rs : List KS} {h : Hd} {t : List Hd} : fl (G :: Gs) (h :: t) = some Rs ↔ ∃ Ss, cs G h = some Ss ∧ fl (Ss ++ Gs) t = some Rs := by
  show (match cs G h with | none => none | some Ss => fl (Ss ++ Gs) t) = some Rs ↔ _
  cases cs G h with
  | none => simp
  | some Ss => simp
theorem fl_app (A B : List Hd) : ∀ Gs, fl Gs (A ++ B) = (fl Gs A).bind (fun t => fl t B) := by
  induction A with
  | nil => intro Gs; cases Gs <;> rfl
  | cons h t ih =>
    intro Gs
    cases Gs with
    | nil => rfl
    | cons G Gs =>
      show (match cs G h with | none => none | some Ss => fl (Ss ++ Gs) (t ++ B)) = _
      cases hc : cs G h with
      | none => simp [fl, hc]
      | some Ss => simp [fl, hc, ih]
theorem fl_nil_l {A : List Hd} {Rs : List KS} (h : fl [] A = some Rs) : A = [] ∧ Rs = [] := by
  cases A with
  | nil => cases h; exact ⟨rfl, rfl⟩
  | cons a t => cases h
theorem fl_nil (Gs : List KS) : fl Gs [] = some Gs := by cases Gs <;> rfl
theorem fl_ext {A : List Hd} : ∀ {Gs Rs : List KS} (Hs : List KS), fl Gs A = some Rs → fl (Gs ++ Hs) A = some (Rs ++ Hs) := by
  induction A with
  | nil => intro Gs Rs Hs h; rw [fl_nil] at h ⊢; cases h; rfl
  | cons a t ih =>
    intro Gs Rs Hs h
    cases Gs with
    | nil => cases h
    | cons G Gs =>
      obtain ⟨Ss, h1, h2⟩ := fl_cons.mp h
      refine fl_cons.mpr ⟨Ss, h1, ?_⟩
      have e := ih Hs h2
      rw [List.append_assoc] at e
      exact e
theorem fl_split {A : List Hd} : ∀ {Gs Hs : List KS}, fl (Gs ++ Hs) A = some [] → ∃ B C, A = B ++ C ∧ fl Gs B = some [] ∧ fl Hs C = some [] := by
  induction A with
  | nil =>
    intro Gs Hs h
    rw [fl_nil] at h
    obtain ⟨rfl, rfl⟩ := List.append_eq_nil_iff.mp (Option.some.inj h)
    exact ⟨[], [], rfl, rfl, rfl⟩
  | cons a t ih =>
    intro Gs Hs h
    cases Gs with
    | nil => exact ⟨[], a :: t, rfl, rfl, h⟩
    | cons G Gs =>
      obtain ⟨Ss, h1, h2⟩ := fl_cons.mp h
      have h2 : fl (Ss ++ (Gs ++ Hs)) t = some [] := h2
      rw [← List.append_assoc] at h2
      obtain ⟨B, C, rfl, e2, e3⟩ := ih h2
      exact ⟨a :: B, C, rfl, fl_cons.mpr ⟨Ss, h1, e2⟩, e3⟩
theorem ex_fl {G : KS} {Gs : List KS} {A B : List Hd} (h : ex G A) : fl (G :: Gs) (A ++ B) = fl Gs B := by
  rw [fl_app, show G :: Gs = [G] ++ Gs from rfl, fl_ext Gs h]
  rfl
theorem ex_ne {G : KS} {A : List Hd} (h : ex G A) : A ≠ [] := by
  intro e; subst e; cases h
/-- the parts of an expression, side by side -/
theorem fl_parts : ∀ {Ss : List KS} {A : List Hd}, fl Ss A = some [] → ∃ ks : List (KS × List Hd), ks.map (fun k => k.1) = Ss ∧ A = (ks.map (fun k => k.2)).flatten ∧ ∀ k ∈ ks, ex k.1 k.2 := by
  intro Ss
  induction Ss with
  | nil => intro A h; exact ⟨[], rfl, (fl_nil_l h).1, fun k hk => by cases hk⟩
  | cons G Gs ih =>
    intro A h
    obtain ⟨B, C, rfl, e1, e2⟩ := fl_split (Gs := [G]) h
    obtain ⟨ks, f1, f2, f3⟩ := ih e2
    refine ⟨(G, B) :: ks, by simp [f1], by simp [f2], fun k hk => ?_⟩
    rcases List.mem_cons.mp hk with rfl | hk
    · exact e1
    · exact f3 k hk
theorem parts_fl : ∀ {ks : List (KS × List Hd)}, (∀ k ∈ ks, ex k.1 k.2) → fl (ks.map (fun k => k.1)) (ks.map (fun k => k.2)).flatten = some [] := by
  intro ks
  induction ks with
  | nil => intro _; rfl
  | cons k ks ih =>
    intro h
    show fl (k.1 :: ks.map (fun k => k.1)) (k.2 ++ (ks.map (fun k => k.2)).flatten) = some []
    rw [ex_fl (h k List.mem_cons_self)]
    exact ih (fun k hk => h k (List.mem_cons_of_mem _ hk))
theorem ex_node {G : KS} {A : List Hd} (h : ex G A) : ∃ (hd : Hd) (ks : List (KS × List Hd)), cs G hd = some (ks.map (fun k => k.1)) ∧ A = hd :: (ks.map (fun k => k.2)).flatten ∧ ∀ k ∈ ks, ex k.1 k.2 := by
  cases A with
  | nil => exact absurd rfl (ex_ne h)
  | cons a t =>
    obtain ⟨Ss, h1, h2⟩ := fl_cons.mp h
    rw [List.append_nil] at h2
    obtain ⟨ks, f1, f2, f3⟩ := fl_parts h2
    exact ⟨a, ks, by rw [f1]; exact h1, by rw [f2], f3⟩
theorem mk_node {G : KS} {hd : Hd} {ks : List (KS × List Hd)} (h : cs G hd = some (ks.map (fun k => k.1))) (hk : ∀ k ∈ ks, ex k.1 k.2) : ex G (hd :: (ks.map (fun k => k.2)).flatten) :=
  fl_cons.mpr ⟨_, h, by rw [List.append_nil]; exact parts_fl hk⟩
theorem flatten_len {ks : List (KS × List Hd)} {k : KS × List Hd} (h : k ∈ ks) : k.2.length ≤ ((ks.map (fun k => k.2)).flatten).length := by
  induction ks with
  | nil => cases h
  | cons a ks ih =>
    simp only [List.map_cons, List.flatten_cons, List.length_append]
    rcases List.mem_cons.mp h with rfl | h
    · omega
    · have := ih h; omega
/-- induction over expressions -/
theorem ex_ind {P : KS → List Hd → Prop} (step : ∀ (G : KS) (hd : Hd) (ks : List (KS × List Hd)), cs G hd = some (ks.map (fun k => k.1)) → (∀ k ∈ ks, ex k.1 k.2) → (∀ k ∈ ks, P k.1 k.2) → P G (hd :: (ks.map (fun k => k.2)).flatten)) :
    ∀ {G : KS} {A : List Hd}, ex G A → P G A := by
  have key : ∀ (n : Nat) (G : KS) (A : List Hd), A.length ≤ n → ex G A → P G A := by
    intro n
    induction n with
    | zero => intro G A hl h; exact absurd (List.length_eq_zero_iff.mp (by omega)) (ex_ne h)
    | succ n ih =>
      intro G A hl h
      obtain ⟨hd, ks, h1, rfl, h3⟩ := ex_node h
      refine step G hd ks h1 h3 (fun k hk => ih _ _ ?_ (h3 k hk))
      have := flatten_len hk
      simp only [List.length_cons] at hl
      omega
  intro G A h
  exact key A.length G A (Nat.le_refl _) h
theorem isVal_not {c : Int} (h : isVal c = true) : isDig c = false ∧ isInp c = false ∧ isOpr c = false ∧ isFun c = false ∧ c ≠ 63 ∧ c ≠ 58 ∧ c ≠ 64 ∧ c ≠ 33 := by
  simp [isVal] at h
  simp [isDig, isInp, isOpr, isFun]
  omega
theorem isFun_not {c : Int} (h : isFun c = true) : isDig c = false ∧ isInp c = false ∧ isOpr c = false ∧ isVal c = false ∧ c ≠ 63 ∧ c ≠ 58 ∧ c ≠ 64 ∧ c ≠ 33 := by
  simp [isFun] at h
  simp [isDig, isInp, isOpr, isVal]
  omega
theorem isDig_not {c : Int} (h : isDig c = true) : isVal c = false ∧ isInp c = false ∧ isOpr c = false ∧ isFun c = false ∧ c ≠ 63 ∧ c ≠ 58 ∧ c ≠ 64 ∧ c ≠ 33 := by
  simp [isDig] at h
  simp [isVal, isInp, isOpr, isFun]
  omega
theorem isInp_not {c : Int} (h : isInp c = true) : isVal c = false ∧ isDig c = false ∧ isOpr c = false ∧ isFun c = false ∧ c ≠ 63 ∧ c ≠ 58 ∧ c ≠ 64 ∧ c ≠ 33 := by
  simp [isInp] at h
  simp [isVal, isDig, isOpr, isFun]
  omega
/-- the kinds of a head, with what is known in its parts -/
theorem cs_cases {G : KS} {h : Hd} {Ss : List KS} (hc : cs G h = some Ss) :
    ((isDig h.1 = true ∨ isInp h.1 = true ∨ (isVal h.1 = true ∧ G h.1 = true)) ∧ Ss = []) ∨ (isOpr h.1 = true ∧ Ss = [G, G]) ∨ (h.1 = 63 ∧ Ss = [G, G, G]) ∨
    (h.1 = 58 ∧ isVal h.2.1 = true ∧ Ss = [G, ins G h.2.1]) ∨ (h.1 = 64 ∧ isFun h.2.1 = true ∧ isVal h.2.2 = true ∧ Ss = [ins (ins G h.2.1) h.2.2, ins G h.2.1]) ∨
    (h.1 = 33 ∧ isFun h.2.1 = true ∧ G h.2.1 = true ∧ Ss = [G]) := by
  unfold cs at hc
  split at hc
  next h1 => cases hc; exact Or.inl ⟨h1, rfl⟩
  next =>
  split at hc
  next h2 => cases hc; exact Or.inr (Or.inl ⟨h2, rfl⟩)
  next =>
  split at hc
  next h3 => cases hc; exact Or.inr (Or.inr (Or.inl ⟨h3, rfl⟩))
  next =>
  split at hc
  next h4 =>
    split at hc
    next h5 => cases hc; exact Or.inr (Or.inr (Or.inr (Or.inl ⟨h4, h5, rfl⟩)))
    next => cases hc
  next =>
  split at hc
  next h4 =>
    split at hc
    next h5 => cases hc; exact Or.inr (Or.inr (Or.inr (Or.inr (Or.inl ⟨h4, h5.1, h5.2, rfl⟩))))
    next => cases hc
  next =>
  split at hc
  next h4 =>
    split at hc
    next h5 => cases hc; exact Or.inr (Or.inr (Or.inr (Or.inr (Or.inr ⟨h4, h5.1, h5.2, rfl⟩))))
    next => cases hc
  next => cases hc
theorem cs_len {G : KS} {h : Hd} {Ss : List KS} (hc : cs G h = some Ss) : Ss.length = pts h.1 := by
  rcases cs_cases hc with ⟨h1 | h1 | h1, rfl⟩ | ⟨h1, rfl⟩ | ⟨h1, rfl⟩ | ⟨h1, h2, rfl⟩ | ⟨h1, h2, h3, rfl⟩ | ⟨h1, h2, h3, rfl⟩
  · have := isDig_not h1; simp [pts, this]
  · have := isInp_not h1; simp [pts, this]
  · have := isVal_not h1.1; simp [pts, this]
  · simp [pts, h1]
  · rw [h1]; rfl
  · rw [h1]; rfl
  · rw [h1]; rfl
  · rw [h1]; rfl
/-! numbers of expressions: en k l, how many heads the first k expressions of l have -/
def en : Nat → List Hd → Nat
  | 0, _ => 0
  | _ + 1, [] => 0
  | k + 1, h :: t => 1 + en (k + pts h.1) t
/-- l begins with k whole expressions -/
def okn : Nat → List Hd → Prop
  | 0, _ => True
  | _ + 1, [] => False
  | k + 1, h :: t => okn (k + pts h.1) t
theorem en_zero (l : List Hd) : en 0 l = 0 := by cases l <;> rfl
theorem okn_zero (l : List Hd) : okn 0 l := by cases l <;> trivial
theorem en_le : ∀ (l : List Hd) (k : Nat), en k l ≤ l.length := by
  intro l
  induction l with
  | nil => intro k; cases k <;> simp [en]
  | cons h t ih =>
    intro k
    cases k with
    | zero => simp [en]
    | succ k => simp only [en, List.length_cons]; have := ih (k + pts h.1); omega
theorem en_add : ∀ (l : List Hd) (j k : Nat), en (j + k) l = en j l + en k (l.drop (en j l)) := by
  intro l
  induction l with
  | nil => intro j k; cases j <;> cases k <;> simp [en]
  | cons h t ih =>
    intro j k
    cases j with
    | zero => simp [en]
    | succ j =>
      rw [show j + 1 + k = (j + k) + 1 by omega]
      simp only [en]
      rw [show j + k + pts h.1 = (j + pts h.1) + k by omega, ih (j + pts h.1) k, show 1 + en (j + pts h.1) t = en (j + pts h.1) t + 1 by omega, List.drop_succ_cons]
      omega
theorem okn_add : ∀ (l : List Hd) (j k : Nat), okn (j + k) l ↔ okn j l ∧ okn k (l.drop (en j l)) := by
  intro l
  induction l with
  | nil => intro j k; cases j <;> cases k <;> simp [en, okn]
  | cons h t ih =>
    intro j k
    cases j with
    | zero => simp [en, okn_zero]
    | succ j =>
      rw [show j + 1 + k = (j + k) + 1 by omega]
      simp only [en, okn]
      rw [show j + k + pts h.1 = (j + pts h.1) + k by omega, ih (j + pts h.1) k, show 1 + en (j + pts h.1) t = en (j + pts h.1) t + 1 by omega, List.drop_succ_cons]
theorem en_pos {l : List Hd} (h : okn 1 l) : 0 < en 1 l := by
  cases l with
  | nil => exact h.elim
  | cons a t => simp only [en]; omega
theorem fl_okn : ∀ {A : List Hd} {Gs : List KS} (B : List Hd), fl Gs A = some [] → okn Gs.length (A ++ B) ∧ en Gs.length (A ++ B) = A.length := by
  intro A
  induction A with
  | nil =>
    intro Gs B h
    rw [fl_nil] at h
    cases h
    exact ⟨okn_zero _, en_zero _⟩
  | cons a t ih =>
    intro Gs B h
    cases Gs with
    | nil => cases h
    | cons G Gs =>
      obtain ⟨Ss, h1, h2⟩ := fl_cons.mp h
      obtain ⟨h3, h4⟩ := ih B h2
      rw [List.length_append, cs_len h1] at h3 h4
      simp only [List.length_cons, List.cons_append, okn, en]
      rw [Nat.add_comm Gs.length]
      exact ⟨h3, by omega⟩
theorem ex_en {G : KS} {A : List Hd} (B : List Hd) (h : ex G A) : okn 1 (A ++ B) ∧ en 1 (A ++ B) = A.length := fl_okn B h
