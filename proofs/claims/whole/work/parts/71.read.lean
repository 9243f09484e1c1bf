/-! Reading, each name told once: T is what was told. -/
def rstep (s : PS) (T : KS) (c : Int) : Option (PS × KS) :=
  if (s.1 = 1 ∨ s.1 = 2 ∨ s.1 = 3) ∧ T c = true then none
  else match pstep s c with
    | none => none
    | some t => some (t, if s.1 = 1 ∨ s.1 = 2 ∨ s.1 = 3 then ins T c else T)
/-- where a text has an error -/
def rerr : List Int → PS → KS → Nat → Option Nat
  | [], s, _, i => if s.2.2.isEmpty = true then none else some i
  | c :: l, s, T, i => if c = 32 then rerr l s T (i + 1) else match rstep s T c with
    | none => some i
    | some u => rerr l u.1 u.2 (i + 1)
def rrun : List Int → PS → KS → Option (PS × KS)
  | [], s, T => some (s, T)
  | c :: l, s, T => match rstep s T c with
    | none => none
    | some u => rrun l u.1 u.2
def nb (l : List Int) : List Int := l.filter (fun c => decide (c ≠ 32))
theorem nb_cons32 {l : List Int} : nb (32 :: l) = nb l := by simp [nb]
theorem nb_cons {c : Int} {l : List Int} (h : c ≠ 32) : nb (c :: l) = c :: nb l := by simp [nb, h]
theorem nb_app (a b : List Int) : nb (a ++ b) = nb a ++ nb b := by simp [nb]
theorem nb_len (l : List Int) : (nb l).length ≤ l.length := List.length_filter_le _ _
theorem rerr_run : ∀ (l : List Int) (s : PS) (T : KS) (i : Nat), rerr l s T i = none → ∃ s' T', rrun (nb l) s T = some (s', T') ∧ s'.2.2 = [] := by
  intro l
  induction l with
  | nil =>
    intro s T i h
    unfold rerr at h
    refine ⟨s, T, rfl, ?_⟩
    cases he : s.2.2 with
    | nil => rfl
    | cons a b => rw [he] at h; simp at h
  | cons c l ih =>
    intro s T i h
    unfold rerr at h
    by_cases hc : c = 32
    · rw [if_pos hc] at h
      rw [hc, nb_cons32]
      exact ih s T (i + 1) h
    · rw [if_neg hc] at h
      rw [nb_cons hc]
      unfold rrun
      cases hs : rstep s T c with
      | none => rw [hs] at h; cases h
      | some u => rw [hs] at h; exact ih u.1 u.2 (i + 1) h
def b01 (b : Bool) : Nat := if b = true then 1 else 0
theorem rstep_0 {G : KS} {Gs : List KS} {T : KS} {c : Int} {f : Int} : rstep (0, f, G :: Gs) T c = match pout 0 f G c with | none => none | some t => some ((t.1, t.2.1, t.2.2 ++ Gs), T) := by
  unfold rstep pstep
  dsimp only
  rw [if_neg (by omega)]
  cases pout 0 f G c with
  | none => rfl
  | some t => simp
theorem rstep_4 {G : KS} {Gs : List KS} {T : KS} {c : Int} {f : Int} : rstep (4, f, G :: Gs) T c = match pout 4 f G c with | none => none | some t => some ((t.1, t.2.1, t.2.2 ++ Gs), T) := by
  unfold rstep pstep
  dsimp only
  rw [if_neg (by omega)]
  cases pout 4 f G c with
  | none => rfl
  | some t => simp
theorem rstep_m {G : KS} {Gs : List KS} {T : KS} {c : Int} {f : Int} {m : Nat} (hm : m = 1 ∨ m = 2 ∨ m = 3) : rstep (m, f, G :: Gs) T c = if T c = true then none else match pout m f G c with | none => none | some t => some ((t.1, t.2.1, t.2.2 ++ Gs), ins T c) := by
  unfold rstep pstep
  dsimp only
  by_cases h : T c = true
  · rw [if_pos ⟨hm, h⟩, if_pos h]
  · rw [if_neg (fun q => h q.2), if_neg h]
    cases pout m f G c with
    | none => rfl
    | some t => simp [hm]
theorem rrun_m {G : KS} {Gs : List KS} {T : KS} {f : Int} {m : Nat} {l : List Int} {s' : PS} {T' : KS} (hm : m = 1 ∨ m = 2 ∨ m = 3) (h : rrun l (m, f, G :: Gs) T = some (s', T')) (he : s'.2.2 = []) : ∃ c l', l = c :: l' ∧ T c = false ∧ ∃ t, pout m f G c = some t ∧ rrun l' (t.1, t.2.1, t.2.2 ++ Gs) (ins T c) = some (s', T') := by
  cases l with
  | nil =>
    unfold rrun at h
    cases h
    cases he
  | cons c l =>
    unfold rrun at h
    rw [rstep_m hm] at h
    by_cases ht : T c = true
    · rw [if_pos ht] at h; cases h
    · rw [if_neg ht] at h
      cases hp : pout m f G c with
      | none => rw [hp] at h; cases h
      | some t =>
        rw [hp] at h
        exact ⟨c, l, rfl, by simpa using ht, t, hp, h⟩
theorem opr_hds {c : Int} (h : isOpr c = true) : hds c = 1 := by
  obtain ⟨-, -, -, -, -, a, b, d⟩ := isOpr_not h
  unfold hds
  rw [if_neg b, if_neg (by omega)]
theorem toks1 {c : Int} (h : hds c = 1) : toks (c, 0, 0) = [c] := by unfold toks; rw [if_pos h]
theorem heads_of : ∀ (n : Nat) (w : List Int) (Gs : List KS) (T : KS) (s' : PS) (T' : KS), w.length ≤ n → rrun w (0, 0, Gs) T = some (s', T') → s'.2.2 = [] → ∃ H : List Hd, tk H = w ∧ fl Gs H = some [] ∧ norm H ∧ ∀ c, bc c H + b01 (T c) ≤ 1 := by
  intro n
  induction n with
  | zero =>
    intro w Gs T s' T' hl h he
    have : w = [] := List.length_eq_zero_iff.mp (by omega)
    subst this
    unfold rrun at h
    cases h
    have he : Gs = [] := he
    subst he
    exact ⟨[], rfl, rfl, fun h hm => (by cases hm), fun c => (by unfold b01; rw [bc_nil]; split <;> omega)⟩
  | succ n ih =>
    intro w Gs T s' T' hl h he
    cases w with
    | nil =>
      unfold rrun at h
      cases h
      have he : Gs = [] := he
      subst he
      exact ⟨[], rfl, rfl, fun h hm => (by cases hm), fun c => (by unfold b01; rw [bc_nil]; split <;> omega)⟩
    | cons c l =>
      simp only [List.length_cons] at hl
      cases Gs with
      | nil =>
        unfold rrun rstep pstep at h
        simp at h
      | cons G Gs =>
        unfold rrun at h
        rw [rstep_0] at h
        -- a head of one letter
        have one : ∀ Ss : List KS, hds c = 1 → c ≠ 58 → c ≠ 64 → cs G (c, 0, 0) = some Ss → rrun l (0, 0, Ss ++ Gs) T = some (s', T') → ∃ H : List Hd, tk H = c :: l ∧ fl (G :: Gs) H = some [] ∧ norm H ∧ ∀ c, bc c H + b01 (T c) ≤ 1 := by
          intro Ss h1 h2 h3 h4 h5
          obtain ⟨H, a1, a2, a3, a4⟩ := ih l (Ss ++ Gs) T s' T' (by omega) h5 he
          refine ⟨(c, 0, 0) :: H, by rw [tk_cons, toks1 h1, a1]; rfl, fl_cons.mpr ⟨Ss, h4, a2⟩, fun h hm => ?_, fun d => ?_⟩
          · rcases List.mem_cons.mp hm with rfl | hm
            · exact ⟨fun _ => rfl, fun _ => rfl⟩
            · exact a3 h hm
          · rw [bc_cons, bcnt_dig h2 h3, Nat.zero_add]
            exact a4 d
        cases hp : pout 0 0 G c with
        | none => rw [hp] at h; cases h
        | some t =>
          rw [hp] at h
          have h : rrun l (t.1, t.2.1, t.2.2 ++ Gs) T = some (s', T') := h
          rw [pout_0] at hp
          split at hp
          next h1 =>
            cases hp
            have h1' : isDig c = true ∨ isVal c = true ∨ isInp c = true := by
              rcases h1 with h1 | h1 | h1
              · exact Or.inl h1
              · exact Or.inr (Or.inr h1)
              · exact Or.inr (Or.inl h1.1)
            obtain ⟨-, q2, q3, q4⟩ := leaf_pts h1'
            exact one [] q2 q3 q4 (cs_leaf h1) h
          next =>
          split at hp
          next h1 =>
            cases hp
            obtain ⟨-, -, -, -, -, q6, q7, -⟩ := isOpr_not h1
            exact one [G, G] (opr_hds h1) q6 q7 (cs_opr h1) h
          next =>
          split at hp
          next h1 =>
            cases hp
            exact one [G, G, G] (by rw [h1]; rfl) (by omega) (by omega) (cs_if h1) h
          next =>
          split at hp
          next h1 =>
            cases hp
            obtain ⟨v, l', rfl, hv, t, ht, h⟩ := rrun_m (Or.inl rfl) h he
            rw [pout_1] at ht
            split at ht
            next hvv =>
              cases ht
              simp only [List.length_cons] at hl
              obtain ⟨H, a1, a2, a3, a4⟩ := ih l' ([G, ins G v] ++ Gs) (ins T v) s' T' (by omega) h he
              refine ⟨(58, v, 0) :: H, by rw [tk_cons, a1, h1]; rfl, fl_cons.mpr ⟨_, cs_bind rfl hvv, a2⟩, fun h hm => ?_, fun d => ?_⟩
              · rcases List.mem_cons.mp hm with rfl | hm
                · exact ⟨fun z => absurd z (by show ¬ (2 < 2); omega), fun _ => rfl⟩
                · exact a3 h hm
              · have := a4 d
                rw [bc_cons]
                unfold bcnt
                unfold b01 ins at *
                by_cases e : d = v
                · subst e
                  simp [hv] at this ⊢
                  omega
                · have e' : ¬ v = d := fun q => e q.symm
                  simp [e] at this
                  simp [e']
                  omega
            next => cases ht
          next =>
          split at hp
          next h1 =>
            cases hp
            obtain ⟨f, l', rfl, hf, t, ht, h⟩ := rrun_m (Or.inr (Or.inl rfl)) h he
            rw [pout_2] at ht
            split at ht
            next hff =>
              cases ht
              obtain ⟨v, l2, rfl, hv, t, ht, h⟩ := rrun_m (Or.inr (Or.inr rfl)) h he
              rw [pout_3] at ht
              split at ht
              next hvv =>
                cases ht
                simp only [List.length_cons] at hl
                obtain ⟨H, a1, a2, a3, a4⟩ := ih l2 ([ins (ins G f) v, ins G f] ++ Gs) (ins (ins T f) v) s' T' (by omega) h he
                refine ⟨(64, f, v) :: H, by rw [tk_cons, a1, h1]; rfl, fl_cons.mpr ⟨_, cs_def rfl hff hvv, a2⟩, fun h hm => ?_, fun d => ?_⟩
                · rcases List.mem_cons.mp hm with rfl | hm
                  · exact ⟨fun z => absurd z (by show ¬ (3 < 2); omega), fun z => absurd z (by show ¬ (3 < 3); omega)⟩
                  · exact a3 h hm
                · have := a4 d
                  have hvf : v ≠ f := by intro e; subst e; unfold ins at hv; simp at hv
                  have hTv : T v = false := by unfold ins at hv; simp at hv; exact hv.2
                  rw [bc_cons]
                  unfold bcnt
                  unfold b01 ins at *
                  by_cases e : d = v
                  · subst e
                    have e2 : ¬ f = d := fun q => hvf q.symm
                    simp [hTv] at this
                    simp [hTv, e2]
                    omega
                  · by_cases e2 : d = f
                    · subst e2
                      have e' : ¬ v = d := hvf
                      simp [hf] at this
                      simp [hf, e']
                      omega
                    · have e' : ¬ v = d := fun q => e q.symm
                      have e2' : ¬ f = d := fun q => e2 q.symm
                      simp [e, e2] at this
                      simp [e', e2']
                      omega
              next => cases ht
            next => cases ht
          next =>
          split at hp
          next h1 =>
            cases hp
            cases l with
            | nil => unfold rrun at h; cases h; cases he
            | cons f l =>
              unfold rrun at h
              rw [show ((4, 0, [G] ++ Gs) : PS) = (4, 0, G :: Gs) from rfl, rstep_4] at h
              cases hq : pout 4 0 G f with
              | none => rw [hq] at h; cases h
              | some t =>
                rw [hq] at h
                have h : rrun l (t.1, t.2.1, t.2.2 ++ Gs) T = some (s', T') := h
                rw [pout_4] at hq
                split at hq
                next hff =>
                  cases hq
                  simp only [List.length_cons] at hl
                  obtain ⟨H, a1, a2, a3, a4⟩ := ih l ([G] ++ Gs) T s' T' (by omega) h he
                  refine ⟨(33, f, 0) :: H, by rw [tk_cons, a1, h1]; rfl, fl_cons.mpr ⟨_, cs_call rfl hff.1 hff.2, a2⟩, fun h hm => ?_, fun d => ?_⟩
                  · rcases List.mem_cons.mp hm with rfl | hm
                    · exact ⟨fun z => absurd z (by show ¬ (2 < 2); omega), fun _ => rfl⟩
                    · exact a3 h hm
                  · rw [bc_cons, bcnt_dig (by show (33 : Int) ≠ 58; decide) (by show (33 : Int) ≠ 64; decide), Nat.zero_add]
                    exact a4 d
                next => cases hq
          next => cases hp
/-- an accepted text is a program's -/
theorem read_prog {l : List Int} (hl : l.length ≤ 60) (h : rerr l (0, 0, [kE]) kE 0 = none) : ∃ H, prog H ∧ tk H = nb l := by
  obtain ⟨s', T', h1, h2⟩ := rerr_run l _ _ _ h
  obtain ⟨H, a1, a2, a3, a4⟩ := heads_of _ (nb l) [kE] kE s' T' (Nat.le_refl _) h1 h2
  refine ⟨H, ⟨a2, a3, fun c => ?_, ?_⟩, a1⟩
  · have := a4 c; omega
  · rw [a1]; have := nb_len l; omega
