/-! Stretches of a list of heads; names unused, names replaced. -/
def seg (H : List Hd) (a n : Nat) : List Hd := (H.drop a).take n
/-- the heads of the expression q -/
def xp (H : List Hd) (q : Nat) : List Hd := seg H q (sp H q)
theorem seg_len {H : List Hd} {a n : Nat} (h : a + n ≤ H.length) : (seg H a n).length = n := by
  unfold seg
  rw [List.length_take, List.length_drop]
  omega
theorem seg_zero {H : List Hd} {a : Nat} : seg H a 0 = [] := by unfold seg; simp
theorem seg_add {H : List Hd} {a m n : Nat} : seg H a (m + n) = seg H a m ++ seg H (a + m) n := by
  unfold seg
  rw [List.take_add, List.drop_drop]
theorem seg_one {H : List Hd} {a : Nat} (h : a < H.length) : seg H a 1 = [hdA H a] := by
  unfold seg
  rw [drop_cons h]
  rfl
theorem seg_succ {H : List Hd} {a n : Nat} (h : a + n < H.length) : seg H a (n + 1) = seg H a n ++ [hdA H (a + n)] := by rw [seg_add, seg_one h]
theorem seg_split {H : List Hd} (a n : Nat) : H.take a ++ (seg H a n ++ H.drop (a + n)) = H := by
  unfold seg
  rw [← List.drop_drop, List.take_append_drop, List.take_append_drop]
theorem mem_seg {H : List Hd} {a : Nat} : ∀ {n : Nat} {h : Hd}, a + n ≤ H.length → h ∈ seg H a n → ∃ q, a ≤ q ∧ q < a + n ∧ h = hdA H q := by
  intro n
  induction n with
  | zero => intro h _ hm; rw [seg_zero] at hm; cases hm
  | succ n ih =>
    intro h hl hm
    rw [seg_succ (by omega)] at hm
    rcases List.mem_append.mp hm with hm | hm
    · obtain ⟨q, a1, a2, a3⟩ := ih (by omega) hm
      exact ⟨q, a1, by omega, a3⟩
    · exact ⟨a + n, by omega, by omega, by simpa using hm⟩
theorem tk_seg {H : List Hd} {a n : Nat} : ((tk H).drop (pos H a)).take (pos H (a + n) - pos H a) = tk (seg H a n) := by
  have e : tk H = tk (H.take a) ++ (tk (seg H a n) ++ tk (H.drop (a + n))) := by rw [← tk_app, ← tk_app, seg_split]
  have e2 : pos H (a + n) = pos H a + (tk (seg H a n)).length := by
    unfold pos
    rw [List.take_add, tk_app, List.length_append]
    rfl
  rw [e2, Nat.add_sub_cancel_left]
  conv => lhs; rw [e]
  unfold pos
  rw [List.drop_left, List.take_left]
theorem pos_seg {H : List Hd} {a n : Nat} : pos H (a + n) = pos H a + (tk (seg H a n)).length := by
  unfold pos
  rw [List.take_add, tk_app, List.length_append]
  rfl
theorem ex_xp {H : List Hd} (he : ex kE H) {q : Nat} (hq : q < H.length) : ex (Kf H q) (xp H q) := by
  obtain ⟨Gs, Ss, -, -, f3, -⟩ := fl_at he hq
  exact (fl_skip f3).2
theorem xp_len {H : List Hd} {q : Nat} (hq : q ≤ H.length) : (xp H q).length = sp H q := seg_len (sp_le hq)
theorem ex_repl {H : List Hd} (he : ex kE H) {p : Nat} (hp : p < H.length) {B : List Hd} (hB : ex (Kf H p) B) : ex kE (H.take p ++ (B ++ H.drop (p + sp H p))) := by
  obtain ⟨Gs, Ss, f1, -, f3, -⟩ := fl_at he hp
  have f4 := (fl_skip f3).1
  rw [List.drop_drop] at f4
  unfold ex
  rw [fl_app, f1]
  show fl (Kf H p :: Gs) (B ++ H.drop (p + sp H p)) = some []
  rw [ex_fl hB]
  exact f4
theorem xp1 {H : List Hd} {p : Nat} (hp : p < H.length) (h : pts (lt H p) = 1) : xp H p = hdA H p :: xp H (kp H p 0) := by
  have e := kp_last hp
  rw [h, kp_succ] at e
  have e0 := kp_zero (H := H) (p := p)
  have es : sp H p = 1 + sp H (kp H p 0) := by omega
  unfold xp
  rw [es, seg_add, seg_one hp, e0]
  rfl
theorem xp2 {H : List Hd} {p : Nat} (hp : p < H.length) (h : pts (lt H p) = 2) : xp H p = hdA H p :: (xp H (kp H p 0) ++ xp H (kp H p 1)) := by
  have e := kp_last hp
  rw [h, kp_succ] at e
  have e1 := kp_succ (H := H) (p := p) (j := 0)
  have e0 := kp_zero (H := H) (p := p)
  rw [Nat.zero_add] at e1
  have es : sp H p = 1 + (sp H (kp H p 0) + sp H (kp H p 1)) := by omega
  unfold xp
  rw [es, seg_add, seg_add, seg_one hp, ← e0, ← e1]
  rfl
theorem xp3 {H : List Hd} {p : Nat} (hp : p < H.length) (h : pts (lt H p) = 3) : xp H p = hdA H p :: (xp H (kp H p 0) ++ (xp H (kp H p 1) ++ xp H (kp H p 2))) := by
  have e := kp_last hp
  rw [h, kp_succ] at e
  have e2 : kp H p 2 = kp H p 1 + sp H (kp H p 1) := kp_succ
  have e1 := kp_succ (H := H) (p := p) (j := 0)
  have e0 := kp_zero (H := H) (p := p)
  rw [Nat.zero_add] at e1
  have es : sp H p = 1 + (sp H (kp H p 0) + (sp H (kp H p 1) + sp H (kp H p 2))) := by omega
  unfold xp
  rw [es, seg_add, seg_add, seg_add, seg_one hp, ← e0, ← e1, ← e2]
  rfl
/-! names -/
def F2 (P : KS → KS → Prop) : List KS → List KS → Prop
  | [], [] => True
  | a :: as, b :: bs => P a b ∧ F2 P as bs
  | _, _ => False
theorem F2_app {P : KS → KS → Prop} : ∀ {a b c d : List KS}, F2 P a b → F2 P c d → F2 P (a ++ c) (b ++ d) := by
  intro a
  induction a with
  | nil =>
    intro b c d h1 h2
    cases b with
    | nil => exact h2
    | cons x y => exact h1.elim
  | cons a as ih =>
    intro b c d h1 h2
    cases b with
    | nil => exact h1.elim
    | cons x y => exact ⟨h1.1, ih h1.2 h2⟩
theorem F2_cons {P : KS → KS → Prop} {a : KS} {as bs : List KS} (h : F2 P (a :: as) bs) : ∃ b bs', bs = b :: bs' ∧ P a b ∧ F2 P as bs' := by
  cases bs with
  | nil => exact h.elim
  | cons x y => exact ⟨x, y, rfl, h.1, h.2⟩
theorem F2_nil {P : KS → KS → Prop} {bs : List KS} (h : F2 P [] bs) : bs = [] := by
  cases bs with
  | nil => rfl
  | cons x y => exact h.elim
def usesH (n : Int) (h : Hd) : Prop := (isVal h.1 = true ∧ h.1 = n) ∨ (h.1 = 33 ∧ h.2.1 = n ∧ isFun n = true)
def leK (n : Int) (K K' : KS) : Prop := ∀ c, K c = true → c = n ∨ K' c = true
theorem leK_ins {n a : Int} {K K' : KS} (h : leK n K K') : leK n (ins K a) (ins K' a) := by
  intro c hc
  unfold ins at hc ⊢
  simp only [Bool.or_eq_true, decide_eq_true_eq] at hc ⊢
  rcases hc with hc | hc
  · exact Or.inr (Or.inl hc)
  · rcases h c hc with h | h
    · exact Or.inl h
    · exact Or.inr (Or.inr h)
theorem cs_leaf {G : KS} {h : Hd} (h1 : isDig h.1 = true ∨ isInp h.1 = true ∨ (isVal h.1 = true ∧ G h.1 = true)) : cs G h = some [] := by unfold cs; rw [if_pos h1]
theorem cs_opr {G : KS} {h : Hd} (h1 : isOpr h.1 = true) : cs G h = some [G, G] := by
  obtain ⟨a, b, c, -⟩ := isOpr_not h1
  unfold cs
  rw [a, b, c]
  simp [h1]
theorem cs_if {G : KS} {h : Hd} (h1 : h.1 = 63) : cs G h = some [G, G, G] := by
  unfold cs
  rw [h1]
  simp [show isDig 63 = false from rfl, show isInp 63 = false from rfl, show isVal 63 = false from rfl, show isOpr 63 = false from rfl]
theorem cs_bind {G : KS} {h : Hd} (h1 : h.1 = 58) (h2 : isVal h.2.1 = true) : cs G h = some [G, ins G h.2.1] := by
  unfold cs
  rw [h1]
  simp [show isDig 58 = false from rfl, show isInp 58 = false from rfl, show isVal 58 = false from rfl, show isOpr 58 = false from rfl, h2]
theorem cs_def {G : KS} {h : Hd} (h1 : h.1 = 64) (h2 : isFun h.2.1 = true) (h3 : isVal h.2.2 = true) : cs G h = some [ins (ins G h.2.1) h.2.2, ins G h.2.1] := by
  unfold cs
  rw [h1]
  simp [show isDig 64 = false from rfl, show isInp 64 = false from rfl, show isVal 64 = false from rfl, show isOpr 64 = false from rfl, h2, h3]
theorem cs_call {G : KS} {h : Hd} (h1 : h.1 = 33) (h2 : isFun h.2.1 = true) (h3 : G h.2.1 = true) : cs G h = some [G] := by
  unfold cs
  rw [h1]
  simp [show isDig 33 = false from rfl, show isInp 33 = false from rfl, show isVal 33 = false from rfl, show isOpr 33 = false from rfl, h2, h3]
theorem cs_mono {n : Int} {G G' : KS} {h : Hd} {Ss : List KS} (hG : leK n G G') (hu : ¬ usesH n h) (hc : cs G h = some Ss) : ∃ Ss', cs G' h = some Ss' ∧ F2 (leK n) Ss Ss' := by
  rcases cs_cases hc with ⟨h1 | h1 | h1, rfl⟩ | ⟨h1, rfl⟩ | ⟨h1, rfl⟩ | ⟨h1, h2, rfl⟩ | ⟨h1, h2, h3, rfl⟩ | ⟨h1, h2, h3, rfl⟩
  · exact ⟨[], cs_leaf (Or.inl h1), trivial⟩
  · exact ⟨[], cs_leaf (Or.inr (Or.inl h1)), trivial⟩
  · refine ⟨[], cs_leaf (Or.inr (Or.inr ⟨h1.1, ?_⟩)), trivial⟩
    rcases hG _ h1.2 with e | e
    · exact absurd (Or.inl ⟨h1.1, e⟩) hu
    · exact e
  · exact ⟨_, cs_opr h1, hG, hG, trivial⟩
  · exact ⟨_, cs_if h1, hG, hG, hG, trivial⟩
  · exact ⟨_, cs_bind h1 h2, hG, leK_ins hG, trivial⟩
  · exact ⟨_, cs_def h1 h2 h3, leK_ins (leK_ins hG), leK_ins hG, trivial⟩
  · refine ⟨_, cs_call h1 h2 ?_, hG, trivial⟩
    rcases hG _ h3 with e | e
    · exact absurd (Or.inr ⟨h1, e, by rw [← e]; exact h2⟩) hu
    · exact e
/-- a name that isn't used needn't be known -/
theorem strn {n : Int} : ∀ {Y : List Hd} {Gs Gs' : List KS}, (∀ h ∈ Y, ¬ usesH n h) → F2 (leK n) Gs Gs' → fl Gs Y = some [] → fl Gs' Y = some [] := by
  intro Y
  induction Y with
  | nil =>
    intro Gs Gs' _ hF hf
    rw [fl_nil] at hf
    cases hf
    rw [F2_nil hF]
    rfl
  | cons h t ih =>
    intro Gs Gs' hu hF hf
    cases Gs with
    | nil => cases hf
    | cons G Gs =>
      obtain ⟨G', Gs2, rfl, hG, hGs⟩ := F2_cons hF
      obtain ⟨Ss, h1, h2⟩ := fl_cons.mp hf
      obtain ⟨Ss', h3, h4⟩ := cs_mono hG (hu h List.mem_cons_self) h1
      exact fl_cons.mpr ⟨Ss', h3, ih (fun q hq => hu q (List.mem_cons_of_mem _ hq)) (F2_app h4 hGs) h2⟩
theorem uses0 (h : Hd) : ¬ usesH 0 h := by
  rintro (⟨h1, h2⟩ | ⟨h1, h2, h3⟩)
  · rw [h2] at h1; cases h1
  · cases h3
theorem weak {G G' : KS} {X : List Hd} (h : ex G X) (hG : ∀ c, G c = true → G' c = true) : ex G' X :=
  strn (n := 0) (fun h _ => uses0 h) (show F2 (leK 0) [G] [G'] from ⟨fun c hc => Or.inr (hG c hc), trivial⟩) h
theorem cs_grow {G0 G : KS} {h : Hd} {Ss : List KS} (hG : ∀ c, G0 c = true → G c = true) (hc : cs G h = some Ss) : ∀ K ∈ Ss, ∀ c, G0 c = true → K c = true := by
  have hi : ∀ a c, G0 c = true → ins G a c = true := fun a c h => by unfold ins; rw [hG c h]; simp
  have hi2 : ∀ a b c, G0 c = true → ins (ins G a) b c = true := fun a b c h => by
    show (decide (c = b) || ins G a c) = true
    rw [hi a c h]; simp
  rcases cs_cases hc with ⟨-, rfl⟩ | ⟨-, rfl⟩ | ⟨-, rfl⟩ | ⟨-, -, rfl⟩ | ⟨-, -, -, rfl⟩ | ⟨-, -, -, rfl⟩
  · intro K hK; cases hK
  · intro K hK; simp at hK; subst hK; exact hG
  · intro K hK; simp at hK; subst hK; exact hG
  · intro K hK
    simp at hK
    rcases hK with rfl | rfl
    · exact hG
    · exact hi _
  · intro K hK
    simp at hK
    rcases hK with rfl | rfl
    · exact hi2 _ _
    · exact hi _
  · intro K hK; simp at hK; subst hK; exact hG
theorem fl_grow {G0 : KS} : ∀ {A : List Hd} {Gs Rs : List KS}, (∀ K ∈ Gs, ∀ c, G0 c = true → K c = true) → fl Gs A = some Rs → ∀ K ∈ Rs, ∀ c, G0 c = true → K c = true := by
  intro A
  induction A with
  | nil => intro Gs Rs hG hf; rw [fl_nil] at hf; cases hf; exact hG
  | cons h t ih =>
    intro Gs Rs hG hf
    cases Gs with
    | nil => cases hf
    | cons G Gs =>
      obtain ⟨Ss, h1, h2⟩ := fl_cons.mp hf
      refine ih (fun K hK => ?_) h2
      rcases List.mem_append.mp hK with hK | hK
      · exact cs_grow (hG G List.mem_cons_self) h1 K hK
      · exact hG K (List.mem_cons_of_mem _ hK)
/-- in Y, X in place of the name v -/
def sub (v : Int) (X Y : List Hd) : List Hd := Y.flatMap (fun h => if h.1 = v then X else [h])
theorem sub_cons (v : Int) (X : List Hd) (h : Hd) (t : List Hd) : sub v X (h :: t) = (if h.1 = v then X else [h]) ++ sub v X t := by simp [sub]
theorem sub_app (v : Int) (X A B : List Hd) : sub v X (A ++ B) = sub v X A ++ sub v X B := by simp [sub]
theorem subst_fl {v : Int} {G : KS} {X : List Hd} (hv : isVal v = true) (hX : ex G X) : ∀ {Y : List Hd} {Gs Gs' : List KS}, F2 (leK v) Gs Gs' → (∀ K ∈ Gs', ∀ c, G c = true → K c = true) → fl Gs Y = some [] → fl Gs' (sub v X Y) = some [] := by
  intro Y
  induction Y with
  | nil =>
    intro Gs Gs' hF _ hf
    rw [fl_nil] at hf
    cases hf
    rw [F2_nil hF]
    rfl
  | cons h t ih =>
    intro Gs Gs' hF hg hf
    cases Gs with
    | nil => cases hf
    | cons G1 Gs =>
      obtain ⟨G', Gs2, rfl, hG, hGs⟩ := F2_cons hF
      obtain ⟨Ss, h1, h2⟩ := fl_cons.mp hf
      rw [sub_cons]
      by_cases e : h.1 = v
      · rw [if_pos e, ex_fl (weak hX (hg G' List.mem_cons_self))]
        have hs : Ss = [] := by
          have hz : isVal h.1 = true := by rw [e]; exact hv
          obtain ⟨a1, a2, a3, a4, a5, a6, a7, a8⟩ := isVal_not hz
          rcases cs_cases h1 with ⟨-, rfl⟩ | ⟨q, -⟩ | ⟨q, -⟩ | ⟨q, -⟩ | ⟨q, -⟩ | ⟨q, -⟩
          · rfl
          · rw [a3] at q; cases q
          · exact absurd q a5
          · exact absurd q a6
          · exact absurd q a7
          · exact absurd q a8
        subst hs
        exact ih hGs (fun K hK => hg K (List.mem_cons_of_mem _ hK)) h2
      · rw [if_neg e]
        have hu : ¬ usesH v h := by
          rintro (⟨-, q⟩ | ⟨-, -, q⟩)
          · exact e q
          · rw [(isVal_not hv).2.2.2.1] at q; cases q
        obtain ⟨Ss', h3, h4⟩ := cs_mono hG hu h1
        refine fl_cons.mpr ⟨Ss', h3, ih (F2_app h4 hGs) (fun K hK => ?_) h2⟩
        rcases List.mem_append.mp hK with hK | hK
        · exact cs_grow (hg G' List.mem_cons_self) h3 K hK
        · exact hg K (List.mem_cons_of_mem _ hK)
theorem ex_sub {v : Int} {G : KS} {X Y : List Hd} (hv : isVal v = true) (hX : ex G X) (hY : ex (ins G v) Y) : ex G (sub v X Y) := by
  refine subst_fl hv hX (show F2 (leK v) [ins G v] [G] from ⟨fun c hc => ?_, trivial⟩) (fun K hK c hc => ?_) hY
  · unfold ins at hc
    simpa using hc
  · simp at hK
    rw [hK]
    exact hc
theorem ex_drop {n : Int} {G : KS} {Y : List Hd} (hY : ex (ins G n) Y) (hu : ∀ h ∈ Y, ¬ usesH n h) : ex G Y := by
  refine strn hu (show F2 (leK n) [ins G n] [G] from ⟨fun c hc => ?_, trivial⟩) hY
  unfold ins at hc
  simpa using hc
/-- the only call of a function, folded out -/
theorem ex_fold {G : KS} {F v z : Int} {E Y1 Y2 B : List Hd} {K0 : KS} (hF : isFun F = true) (hv : isVal v = true) (hY : ex (ins G F) (Y1 ++ ((33, F, z) :: (E ++ Y2)))) (hE : ex K0 E) (hB : ex (ins (ins G F) v) B)
    (nB : ∀ h ∈ B, ¬ usesH F h) (n1 : ∀ h ∈ Y1, ¬ usesH F h) (nE : ∀ h ∈ E, ¬ usesH F h) (n2 : ∀ h ∈ Y2, ¬ usesH F h) : ex G (Y1 ++ ((58, v, 0) :: (E ++ (B ++ Y2)))) := by
  have hvF : v ≠ F := by intro e; rw [e, (isFun_not hF).2.2.2.1] at hv; cases hv
  refine ex_drop (n := F) ?_ (fun h hm => ?_)
  · unfold ex at hY ⊢
    rw [fl_app] at hY ⊢
    cases hf : fl [ins G F] Y1 with
    | none => rw [hf] at hY; cases hY
    | some Rs =>
      rw [hf] at hY
      have hY : fl Rs ((33, F, z) :: (E ++ Y2)) = some [] := hY
      show fl Rs ((58, v, 0) :: (E ++ (B ++ Y2))) = some []
      cases Rs with
      | nil => cases hY
      | cons K Ks =>
        obtain ⟨Ss, h1, h2⟩ := fl_cons.mp hY
        have hS : Ss = [K] := by
          rcases cs_cases h1 with ⟨q | q | q, -⟩ | ⟨q, -⟩ | ⟨q, -⟩ | ⟨q, -⟩ | ⟨q, -⟩ | ⟨-, -, -, q⟩
          · cases q
          · cases q
          · cases q.1
          · cases q
          · exact absurd (show (33 : Int) = 63 from q) (by decide)
          · exact absurd (show (33 : Int) = 58 from q) (by decide)
          · exact absurd (show (33 : Int) = 64 from q) (by decide)
          · exact q
        subst hS
        have h2 : fl (K :: Ks) (E ++ Y2) = some [] := h2
        obtain ⟨f1, f2⟩ := fl_skip h2
        rw [(ex_en Y2 hE).2, List.drop_left] at f1
        rw [(ex_en Y2 hE).2, List.take_left] at f2
        refine fl_cons.mpr ⟨[K, ins K v], cs_bind rfl hv, ?_⟩
        show fl (K :: ins K v :: Ks) (E ++ (B ++ Y2)) = some []
        rw [ex_fl f2, ex_fl (weak hB ?_)]
        · exact f1
        · have hg := fl_grow (G0 := ins G F) (Gs := [ins G F]) (fun K hK c hc => by simp at hK; rw [hK]; exact hc) hf K List.mem_cons_self
          intro c hc
          have hc : (decide (c = v) || ins G F c) = true := hc
          show (decide (c = v) || K c) = true
          simp only [Bool.or_eq_true, decide_eq_true_eq] at hc ⊢
          rcases hc with hc | hc
          · exact Or.inl hc
          · exact Or.inr (hg c hc)
  · rcases List.mem_append.mp hm with hm | hm
    · exact n1 h hm
    · rcases List.mem_cons.mp hm with rfl | hm
      · rintro (⟨q, -⟩ | ⟨q, -⟩)
        · cases q
        · exact absurd (show (58 : Int) = 33 from q) (by decide)
      · rcases List.mem_append.mp hm with hm | hm
        · exact nE h hm
        · rcases List.mem_append.mp hm with hm | hm
          · exact nB h hm
          · exact n2 h hm
