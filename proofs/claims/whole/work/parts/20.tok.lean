/-! Programs as lists of tokens. KS: the names known. A state of reading: a mode, a pending function's name, the known names of each expression that is still due. -/
abbrev KS : Type := Int → Bool
def kE : KS := fun _ => false
def ins (G : KS) (c : Int) : KS := fun d => decide (d = c) || G d
abbrev PS : Type := Nat × Int × List KS
/-- what one token does to the first expression that is due -/
def pout (m : Nat) (f : Int) (G : KS) (c : Int) : Option PS := match m with
  | 0 => if isDig c = true ∨ isInp c = true ∨ (isVal c = true ∧ G c = true) then some (0, 0, [])
      else if isOpr c = true then some (0, 0, [G, G])
      else if c = 63 then some (0, 0, [G, G, G])
      else if c = 58 then some (1, 0, [G])
      else if c = 64 then some (2, 0, [G])
      else if c = 33 then some (4, 0, [G])
      else none
  | 1 => if isVal c = true then some (0, 0, [G, ins G c]) else none
  | 2 => if isFun c = true then some (3, c, [G]) else none
  | 3 => if isVal c = true then some (0, 0, [ins (ins G f) c, ins G f]) else none
  | _ => if isFun c = true ∧ G c = true then some (0, 0, [G]) else none
theorem pout_0 (f : Int) (G : KS) (c : Int) : pout 0 f G c = if isDig c = true ∨ isInp c = true ∨ (isVal c = true ∧ G c = true) then some (0, 0, [])
      else if isOpr c = true then some (0, 0, [G, G])
      else if c = 63 then some (0, 0, [G, G, G])
      else if c = 58 then some (1, 0, [G])
      else if c = 64 then some (2, 0, [G])
      else if c = 33 then some (4, 0, [G])
      else none := rfl
theorem pout_1 (f : Int) (G : KS) (c : Int) : pout 1 f G c = if isVal c = true then some (0, 0, [G, ins G c]) else none := rfl
theorem pout_2 (f : Int) (G : KS) (c : Int) : pout 2 f G c = if isFun c = true then some (3, c, [G]) else none := rfl
theorem pout_3 (f : Int) (G : KS) (c : Int) : pout 3 f G c = if isVal c = true then some (0, 0, [ins (ins G f) c, ins G f]) else none := rfl
theorem pout_4 (f : Int) (G : KS) (c : Int) : pout 4 f G c = if isFun c = true ∧ G c = true then some (0, 0, [G]) else none := rfl
def pstep (s : PS) (c : Int) : Option PS := match s.2.2 with
  | [] => none
  | G :: Gs => match pout s.1 s.2.1 G c with
    | none => none
    | some t => some (t.1, t.2.1, t.2.2 ++ Gs)
def fill : PS → List Int → Option PS
  | s, [] => some s
  | s, c :: l => match pstep s c with
    | none => none
    | some t => fill t l
/-- one expression, all of whose names are known in G or by it -/
def sc (G : KS) (a : List Int) : Prop := fill (0, 0, [G]) a = some (0, 0, [])
theorem fill_app (a b : List Int) : ∀ s, fill s (a ++ b) = (fill s a).bind (fun t => fill t b) := by
  induction a with
  | nil => intro s; rfl
  | cons c l ih =>
    intro s
    show (match pstep s c with | none => none | some t => fill t (l ++ b)) = _
    cases h : pstep s c with
    | none => simp [fill, h]
    | some t => simp [fill, h, ih]
theorem pstep_ext {s t : PS} {c : Int} {Hs : List KS} (h : pstep s c = some t) : pstep (s.1, s.2.1, s.2.2 ++ Hs) c = some (t.1, t.2.1, t.2.2 ++ Hs) := by
  obtain ⟨m, f, Gs⟩ := s
  cases Gs with
  | nil => cases h
  | cons G Gs =>
    unfold pstep at h ⊢
    dsimp only [List.cons_append] at h ⊢
    cases hp : pout m f G c with
    | none => rw [hp] at h; cases h
    | some u =>
      rw [hp] at h
      cases h
      simp
theorem fill_ext {l : List Int} : ∀ {s t : PS} (Hs : List KS), fill s l = some t → fill (s.1, s.2.1, s.2.2 ++ Hs) l = some (t.1, t.2.1, t.2.2 ++ Hs) := by
  induction l with
  | nil => intro s t Hs h; cases h; rfl
  | cons c l ih =>
    intro s t Hs h
    unfold fill at h ⊢
    cases hp : pstep s c with
    | none => rw [hp] at h; cases h
    | some u =>
      rw [hp] at h
      rw [pstep_ext hp]
      exact ih Hs h
/-- what fills two rows of dues fills the first and then the second -/
theorem fill_split {l : List Int} : ∀ {m : Nat} {f : Int} {Gs Hs : List KS}, (Gs = [] → m = 0 ∧ f = 0) → fill (m, f, Gs ++ Hs) l = some (0, 0, []) →
    ∃ a b, l = a ++ b ∧ fill (m, f, Gs) a = some (0, 0, []) ∧ fill (0, 0, Hs) b = some (0, 0, []) := by
  induction l with
  | nil =>
    intro m f Gs Hs h0 h
    have h1 : (m, f, Gs ++ Hs) = ((0, 0, []) : PS) := by simpa [fill] using h
    have e1 : Gs ++ Hs = [] := congrArg (fun q : PS => q.2.2) h1
    obtain ⟨rfl, rfl⟩ := List.append_eq_nil_iff.mp e1
    exact ⟨[], [], rfl, h, by rfl⟩
  | cons c l ih =>
    intro m f Gs Hs h0 h
    cases Gs with
    | nil =>
      obtain ⟨rfl, rfl⟩ := h0 rfl
      exact ⟨[], c :: l, rfl, rfl, h⟩
    | cons G Gs =>
      unfold fill pstep at h
      dsimp only [List.cons_append] at h
      cases hp : pout m f G c with
      | none => rw [hp] at h; cases h
      | some u =>
        rw [hp] at h
        dsimp only at h
        rw [← List.append_assoc] at h
        have h0' : u.2.2 ++ Gs = [] → u.1 = 0 ∧ u.2.1 = 0 := by
          intro e
          obtain ⟨e1, -⟩ := List.append_eq_nil_iff.mp e
          unfold pout at hp
          split at hp
          · repeat' (split at hp)
            all_goals (first | (cases hp; done) | (cases hp; exact ⟨rfl, rfl⟩) | (cases hp; simp at e1; done))
          · split at hp <;> cases hp; simp at e1
          · split at hp <;> cases hp; simp at e1
          · split at hp <;> cases hp; simp at e1
          · split at hp <;> cases hp; simp at e1
        obtain ⟨a, b, e1, e2, e3⟩ := ih h0' h
        refine ⟨c :: a, b, by rw [e1]; rfl, ?_, e3⟩
        unfold fill pstep
        dsimp only
        rw [hp]
        exact e2
theorem fill_nil {l : List Int} (h : fill (0, 0, []) l = some (0, 0, [])) : l = [] := by
  cases l with
  | nil => rfl
  | cons c l => simp [fill, pstep] at h
theorem fill_one {G : KS} {Gs : List KS} {l : List Int} (h : fill (0, 0, G :: Gs) l = some (0, 0, [])) : ∃ a b, l = a ++ b ∧ sc G a ∧ fill (0, 0, Gs) b = some (0, 0, []) :=
  fill_split (Gs := [G]) (fun e => by cases e) h
theorem sc_ne {G : KS} {a : List Int} (h : sc G a) : a ≠ [] := by
  intro e
  subst e
  simp [sc, fill] at h
theorem fill_cons {m : Nat} {f : Int} {G : KS} {Gs : List KS} {c : Int} {l : List Int} {t : PS} (h : fill (m, f, G :: Gs) (c :: l) = some t) : ∃ u, pout m f G c = some u ∧ fill (u.1, u.2.1, u.2.2 ++ Gs) l = some t := by
  unfold fill pstep at h
  dsimp only at h
  cases hp : pout m f G c with
  | none => rw [hp] at h; cases h
  | some u => rw [hp] at h; exact ⟨u, rfl, h⟩
/-- the kinds of an expression -/
theorem sc_cases {G : KS} {a : List Int} (h : sc G a) :
    (∃ c, a = [c] ∧ (isDig c = true ∨ isInp c = true ∨ (isVal c = true ∧ G c = true))) ∨
    (∃ c x y, a = c :: (x ++ y) ∧ isOpr c = true ∧ sc G x ∧ sc G y) ∨
    (∃ x y z, a = 63 :: (x ++ (y ++ z)) ∧ sc G x ∧ sc G y ∧ sc G z) ∨
    (∃ v x y, a = 58 :: v :: (x ++ y) ∧ isVal v = true ∧ sc G x ∧ sc (ins G v) y) ∨
    (∃ f v x y, a = 64 :: f :: v :: (x ++ y) ∧ isFun f = true ∧ isVal v = true ∧ sc (ins (ins G f) v) x ∧ sc (ins G f) y) ∨
    (∃ f x, a = 33 :: f :: x ∧ isFun f = true ∧ G f = true ∧ sc G x) := by
  cases a with
  | nil => exact absurd rfl (sc_ne h)
  | cons c l =>
    replace h := fill_cons h
    obtain ⟨u, hu, h⟩ := h
    rw [pout_0] at hu
    split at hu
    next h1 =>
      cases hu
      have := fill_nil h
      subst this
      exact Or.inl ⟨c, rfl, h1⟩
    next =>
    split at hu
    next h2 =>
      cases hu
      obtain ⟨x, r, rfl, e1, e2⟩ := fill_one h
      obtain ⟨y, r, rfl, e3, e4⟩ := fill_one e2
      have := fill_nil e4
      subst this
      rw [List.append_nil]
      exact Or.inr (Or.inl ⟨c, x, y, rfl, h2, e1, e3⟩)
    next =>
    split at hu
    next h3 =>
      cases hu
      subst h3
      obtain ⟨x, r, rfl, e1, e2⟩ := fill_one h
      obtain ⟨y, r, rfl, e3, e4⟩ := fill_one e2
      obtain ⟨z, r, rfl, e5, e6⟩ := fill_one e4
      have := fill_nil e6
      subst this
      rw [List.append_nil]
      exact Or.inr (Or.inr (Or.inl ⟨x, y, z, rfl, e1, e3, e5⟩))
    next =>
    split at hu
    next h4 =>
      cases hu
      subst h4
      cases l with
      | nil => simp [fill] at h
      | cons v l =>
        replace h := fill_cons h
        obtain ⟨u, hu, h⟩ := h
        rw [pout_1] at hu
        split at hu
        next hv =>
          cases hu
          obtain ⟨x, r, rfl, e1, e2⟩ := fill_one h
          obtain ⟨y, r, rfl, e3, e4⟩ := fill_one e2
          have := fill_nil e4
          subst this
          rw [List.append_nil]
          exact Or.inr (Or.inr (Or.inr (Or.inl ⟨v, x, y, rfl, hv, e1, e3⟩)))
        next => cases hu
    next =>
    split at hu
    next h5 =>
      cases hu
      subst h5
      cases l with
      | nil => simp [fill] at h
      | cons f l =>
        replace h := fill_cons h
        obtain ⟨u, hu, h⟩ := h
        rw [pout_2] at hu
        split at hu
        next hf =>
          cases hu
          cases l with
          | nil => simp [fill] at h
          | cons v l =>
            replace h := fill_cons h
            obtain ⟨u, hu, h⟩ := h
            rw [pout_3] at hu
            split at hu
            next hv =>
              cases hu
              obtain ⟨x, r, rfl, e1, e2⟩ := fill_one h
              obtain ⟨y, r, rfl, e3, e4⟩ := fill_one e2
              have := fill_nil e4
              subst this
              rw [List.append_nil]
              exact Or.inr (Or.inr (Or.inr (Or.inr (Or.inl ⟨f, v, x, y, rfl, hf, hv, e1, e3⟩))))
            next => cases hu
        next => cases hu
    next =>
    split at hu
    next h6 =>
      cases hu
      subst h6
      cases l with
      | nil => simp [fill] at h
      | cons f l =>
        replace h := fill_cons h
        obtain ⟨u, hu, h⟩ := h
        rw [pout_4] at hu
        split at hu
        next hf =>
          cases hu
          obtain ⟨x, r, rfl, e1, e2⟩ := fill_one h
          have := fill_nil e2
          subst this
          rw [List.append_nil]
          exact Or.inr (Or.inr (Or.inr (Or.inr (Or.inr ⟨f, x, rfl, hf.1, hf.2, e1⟩))))
        next => cases hu
    next => cases hu
theorem sc_fill {G : KS} {Gs : List KS} {a b : List Int} (h : sc G a) : fill (0, 0, G :: Gs) (a ++ b) = fill (0, 0, Gs) b := by
  rw [fill_app, show ((0, 0, G :: Gs) : PS) = (((0, 0, [G]) : PS).1, ((0, 0, [G]) : PS).2.1, ((0, 0, [G]) : PS).2.2 ++ Gs) from rfl, fill_ext Gs h]
  rfl
theorem isOpr_not {c : Int} (h : isOpr c = true) : isDig c = false ∧ isInp c = false ∧ isVal c = false ∧ isFun c = false ∧ c ≠ 63 ∧ c ≠ 58 ∧ c ≠ 64 ∧ c ≠ 33 := by
  simp [isOpr] at h
  simp [isDig, isInp, isVal, isFun]
  omega
theorem mk_opr {G : KS} {c : Int} {x y : List Int} (h : isOpr c = true) (hx : sc G x) (hy : sc G y) : sc G (c :: (x ++ y)) := by
  obtain ⟨h1, h2, h3, -⟩ := isOpr_not h
  have e : sc G (c :: (x ++ y)) = (fill (0, 0, [G, G]) (x ++ y) = some (0, 0, [])) := by simp [sc, fill, pstep, pout, h, h1, h2, h3]
  rw [e, sc_fill hx]
  exact hy
theorem mk_if {G : KS} {x y z : List Int} (hx : sc G x) (hy : sc G y) (hz : sc G z) : sc G (63 :: (x ++ (y ++ z))) := by
  have e : sc G (63 :: (x ++ (y ++ z))) = (fill (0, 0, [G, G, G]) (x ++ (y ++ z)) = some (0, 0, [])) := by simp [sc, fill, pstep, pout, isDig, isInp, isVal, isOpr]
  rw [e, sc_fill hx, sc_fill hy]
  exact hz
theorem mk_let {G : KS} {v : Int} {x y : List Int} (h : isVal v = true) (hx : sc G x) (hy : sc (ins G v) y) : sc G (58 :: v :: (x ++ y)) := by
  have e : sc G (58 :: v :: (x ++ y)) = (fill (0, 0, [G, ins G v]) (x ++ y) = some (0, 0, [])) := by simp [sc, fill, pstep, pout, isDig, isInp, isOpr, h, show isVal 58 = false from rfl]
  rw [e, sc_fill hx]
  exact hy
theorem mk_def {G : KS} {f v : Int} {x y : List Int} (hf : isFun f = true) (h : isVal v = true) (hx : sc (ins (ins G f) v) x) (hy : sc (ins G f) y) : sc G (64 :: f :: v :: (x ++ y)) := by
  have e : sc G (64 :: f :: v :: (x ++ y)) = (fill (0, 0, [ins (ins G f) v, ins G f]) (x ++ y) = some (0, 0, [])) := by simp [sc, fill, pstep, pout, isDig, isInp, isOpr, h, hf, show isVal 64 = false from rfl]
  rw [e, sc_fill hx]
  exact hy
theorem mk_call {G : KS} {f : Int} {x : List Int} (hf : isFun f = true) (hg : G f = true) (hx : sc G x) : sc G (33 :: f :: x) := by
  have e : sc G (33 :: f :: x) = (fill (0, 0, [G]) x = some (0, 0, [])) := by simp [sc, fill, pstep, pout, isDig, isInp, isOpr, hf, hg, show isVal 33 = false from rfl]
  rw [e]
  exact hx
theorem mk_leaf {G : KS} {c : Int} (h : isDig c = true ∨ isInp c = true ∨ (isVal c = true ∧ G c = true)) : sc G [c] := by
  simp [sc, fill, pstep, pout, h]
/-- induction over expressions -/
theorem sc_ind {P : KS → List Int → Prop}
    (leaf : ∀ G c, (isDig c = true ∨ isInp c = true ∨ (isVal c = true ∧ G c = true)) → P G [c])
    (opr : ∀ G c x y, isOpr c = true → sc G x → sc G y → P G x → P G y → P G (c :: (x ++ y)))
    (ite : ∀ G x y z, sc G x → sc G y → sc G z → P G x → P G y → P G z → P G (63 :: (x ++ (y ++ z))))
    (bind : ∀ G v x y, isVal v = true → sc G x → sc (ins G v) y → P G x → P (ins G v) y → P G (58 :: v :: (x ++ y)))
    (defn : ∀ G f v x y, isFun f = true → isVal v = true → sc (ins (ins G f) v) x → sc (ins G f) y → P (ins (ins G f) v) x → P (ins G f) y → P G (64 :: f :: v :: (x ++ y)))
    (call : ∀ G f x, isFun f = true → G f = true → sc G x → P G x → P G (33 :: f :: x)) :
    ∀ {G : KS} {a : List Int}, sc G a → P G a := by
  have key : ∀ (n : Nat) (G : KS) (a : List Int), a.length ≤ n → sc G a → P G a := by
    intro n
    induction n with
    | zero => intro G a hl h; exact absurd (List.length_eq_zero_iff.mp (by omega)) (sc_ne h)
    | succ n ih =>
      intro G a hl h
      rcases sc_cases h with ⟨c, rfl, h1⟩ | ⟨c, x, y, rfl, h1, h2, h3⟩ | ⟨x, y, z, rfl, h1, h2, h3⟩ | ⟨v, x, y, rfl, h1, h2, h3⟩ | ⟨f, v, x, y, rfl, h1, h2, h3, h4⟩ | ⟨f, x, rfl, h1, h2, h3⟩
      · exact leaf G c h1
      · simp at hl
        exact opr G c x y h1 h2 h3 (ih _ _ (by omega) h2) (ih _ _ (by omega) h3)
      · simp at hl
        exact ite G x y z h1 h2 h3 (ih _ _ (by omega) h1) (ih _ _ (by omega) h2) (ih _ _ (by omega) h3)
      · simp at hl
        exact bind G v x y h1 h2 h3 (ih _ _ (by omega) h2) (ih _ _ (by omega) h3)
      · simp at hl
        exact defn G f v x y h1 h2 h3 h4 (ih _ _ (by omega) h3) (ih _ _ (by omega) h4)
      · simp at hl
        exact call G f x h1 h2 h3 (ih _ _ (by omega) h3)
  intro G a h
  exact key a.length G a (Nat.le_refl _) h
