/-! Methods that only look: part, told, uses, last, input, status. -/
def DepRec (H : List Hd) (f : Nat → Int) : Prop := f 0 = 0 ∧ ∀ a j, a < H.length → j < pts (lt H a) → f (kp H a j) = f a + 1
noncomputable def dpt (H : List Hd) : Nat → Int := Classical.epsilon (DepRec H)
theorem dpt_eq {H : List Hd} (hw : wfa H) {f : Nat → Int} (h : DepRec H f) : ∀ q, q < H.length → f q = dpt H q := by
  have h' : DepRec H (dpt H) := Classical.epsilon_spec ⟨f, h⟩
  intro q
  induction q using Nat.strongRecOn with
  | _ q ih =>
    intro hq
    rcases Nat.eq_zero_or_pos q with h0 | h0
    · subst h0; rw [h.1, h'.1]
    · obtain ⟨a, j, a1, a2, a3⟩ := kp_surj hw q h0 hq
      rw [← a3, h.2 a j (by omega) a2, h'.2 a j (by omega) a2, ih a a1 (by omega)]
noncomputable def par (H : List Hd) (p : Nat) : Nat := Classical.epsilon (fun a => ∃ j, a < H.length ∧ j < pts (lt H a) ∧ kp H a j = p)
theorem par_eq {H : List Hd} (hw : wfa H) {a j : Nat} (ha : a < H.length) (hj : j < pts (lt H a)) : par H (kp H a j) = a := by
  have : ∃ i, par H (kp H a j) < H.length ∧ i < pts (lt H (par H (kp H a j))) ∧ kp H (par H (kp H a j)) i = kp H a j := Classical.epsilon_spec (p := fun b => ∃ i, b < H.length ∧ i < pts (lt H b) ∧ kp H b i = kp H a j) ⟨a, j, ha, hj, rfl⟩
  obtain ⟨i, i1, i2, i3⟩ := this
  exact (kp_uniq hw i1 ha i2 hj i3).1
theorem tree_par {I : Mem} {H : List Hd} (hw : wfa H) (h : TreeOK I 9 H) {p : Nat} (hp : p < H.length) (h0 : p ≠ 0) : I 16 p = (par H p : Int) := by
  obtain ⟨a, j, a1, a2, a3⟩ := kp_surj hw p (by omega) hp
  have := (h.2.2.1.2 a j (by omega) a2 (by omega)).1
  rw [a3] at this
  rw [← a3, par_eq hw (by omega) a2, a3]
  exact this
theorem tree_dep {I : Mem} {H : List Hd} (hw : wfa H) (h : TreeOK I 9 H) (hl : 0 < H.length) {p : Nat} (hp : p < H.length) : I 18 p = dpt H p :=
  dpt_eq hw (f := I 18) ⟨(h.2.2.1.1 hl).2.2, fun a j ha hj => (h.2.2.1.2 a j ha hj (kp_len hw ha hj)).2.2⟩ p hp
theorem mtree_par {I : Mem} {H : List Hd} (hw : wfa H) (h : MAna I H) {p : Nat} (hp : p < H.length) (h0 : p ≠ 0) : I 92 p = (par H p : Int) := by
  obtain ⟨a, j, a1, a2, a3⟩ := kp_surj hw p (by omega) hp
  have := (h.1.1.2.2.2.1.2 a j (by omega) a2 (by omega)).1
  rw [a3] at this
  rw [← a3, par_eq hw (by omega) a2, a3]
  exact this
theorem mtree_dep {I : Mem} {H : List Hd} (hw : wfa H) (h : MAna I H) (hl : 0 < H.length) {p : Nat} (hp : p < H.length) : I 93 p = dpt H p :=
  dpt_eq hw (f := I 93) ⟨(h.1.1.2.2.2.1.1 hl).2, fun a j ha hj => (h.1.1.2.2.2.1.2 a j ha hj (kp_len hw ha hj)).2.1⟩ p hp
noncomputable def oPart (p w : Int) (H : List Hd) : Int := if ¬ (0 ≤ p ∧ p < (H.length : Int) ∧ 0 ≤ w ∧ w ≤ 3) then -1 else if w = 0 then lt H p.toNat else if w = 1 then (sp H p.toNat : Int) else if w = 2 then (if p = 0 then -9 else (par H p.toNat : Int)) else dpt H p.toNat
section Looks
variable {I : Mem} {S : Sta} {Q : Post}
theorem RelC.rows (hG : Good S) (h : RelC I S) {q : Nat} (hq : q < S.1.1.length) : rd I 10 (q : Int) = lt S.1.1 q ∧ rd I 11 (q : Int) = nm S.1.1 q ∧ rd I 15 (q : Int) = (sp S.1.1 q : Int) ∧ rd I 16 (q : Int) = I 16 q ∧ rd I 18 (q : Int) = I 18 q ∧ rd I 21 (q : Int) = tl S.1.1 q := by
  have h60 := prog_60 hG.1
  have hT := h.2.1.1
  have e : ∀ k, 1 ≤ k → k ≤ 10 → rd I (9 + k) (q : Int) = I (9 + k) q := fun k h1 h2 => tree_rd (t := 9) (H := S.1.1) (Or.inl rfl) h60 k q h1 h2 hq
  obtain ⟨a1, a2, -, -⟩ := hT.2.1 q hq
  obtain ⟨-, b2⟩ := hT.2.2.2.1 q hq
  refine ⟨(e 1 (by omega) (by omega)).trans a1, (e 2 (by omega) (by omega)).trans a2, (e 6 (by omega) (by omega)).trans b2, e 7 (by omega) (by omega), e 9 (by omega) (by omega), ?_⟩
  rw [rd_nat (by rw [sz21]; omega)]
  exact (h.2.1.2.1 q hq).1
theorem C_part {p w : Int} (hG : Good S) (h : RelC I S) (hQ : Q (some (.inl (oPart p w S.1.1))) I) : R 82 0 [(0, .inr (some 0)), (1, .inl p), (2, .inl w)] [] I Q := by
  have hw := prog_wfa hG.1
  have hl := prog_pos hG.1
  have e9 : I 9 0 = (S.1.1.length : Int) := h.2.1.1.1
  unfold oPart at hQ
  refine t82_0 I _ _ ?_
  rw [e9, b2i_0]
  refine ⟨fun z => ?_, fun z => ⟨fun z2 => ?_, fun z2 => ⟨fun z3 => ?_, fun z3 => ?_⟩⟩⟩
  · rw [if_pos (fun w => by rw [show inI p 0 ((S.1.1.length : Int) - 1) = true from inI_iff.mpr ⟨w.1, by omega⟩] at z; cases z)] at hQ
    exact hQ
  · rw [if_pos (by omega)] at hQ; exact hQ
  · have z : 0 ≤ p ∧ p ≤ (S.1.1.length : Int) - 1 := inI_iff.mp (by simpa using z)
    rw [if_neg (by omega)] at hQ
    have hpl : p.toNat < S.1.1.length := by omega
    have hpe : p = (p.toNat : Int) := by omega
    have hr := h.rows hG hpl
    rw [hpe, hr.1, hr.2.2.1, hr.2.2.2.1, hr.2.2.2.2.1]
    refine ⟨fun a => ?_, fun a => ⟨fun b => ?_, fun b => ⟨fun c => ⟨fun d => ?_, fun d => ?_⟩, fun c => ?_⟩⟩⟩
    · rw [if_pos a] at hQ; exact hQ
    · rw [if_neg a, if_pos b] at hQ; exact hQ
    · rw [if_neg a, if_neg b, if_pos c, if_neg (by omega)] at hQ
      rw [tree_par hw h.2.1.1 hpl (by omega)]; exact hQ
    · rw [if_neg a, if_neg b, if_pos c, if_pos (by omega)] at hQ; exact hQ
    · rw [if_neg a, if_neg b, if_neg c] at hQ
      rw [tree_dep hw h.2.1.1 hl hpl]; exact hQ
  · rw [if_pos (by omega)] at hQ; exact hQ
theorem M_part {p w : Int} (hG : Good S) (h : RelM I S) (hQ : ∀ I', RelM I' S → FrLo I I' → Q (some (.inl (oPart p w S.1.1))) I') : R 153 0 [(0, .inr (some 77)), (1, .inl p), (2, .inl w)] [] I Q := by
  have hw := prog_wfa hG.1
  have hl := prog_pos hG.1
  have h60 := prog_60 hG.1
  unfold oPart at hQ
  refine t153_0 I _ _ ?_
  dsimp only
  have h0 := h.thr (v := 0)
  have f0 := thr_lo (I := I) (v := 0)
  generalize upd2 I 77 0 0 = K at h0 f0 ⊢
  have hQ := hQ K h0 f0
  have e20 : K 77 20 = (S.1.1.length : Int) := h0.1.1.1.2.1
  rw [e20, wrap_of (by omega) (by omega), b2i_0]
  refine ⟨fun z => ?_, fun z => ⟨fun z2 => ?_, fun z2 => ?_⟩⟩
  · rw [if_pos (fun w => by rw [show inI p 0 ((S.1.1.length : Int) - 1) = true from inI_iff.mpr ⟨w.1, by omega⟩] at z; cases z)] at hQ
    exact hQ
  · have z : 0 ≤ p ∧ p ≤ (S.1.1.length : Int) - 1 := inI_iff.mp (by simpa using z)
    have z2 := inI_iff.mp (nob2i.mp z2)
    rw [if_neg (by omega)] at hQ
    have hpl : p.toNat < S.1.1.length := by omega
    have hpe : p = (p.toNat : Int) := by omega
    have hi : inb p 60 := ⟨by omega, by omega⟩
    refine ⟨fun a => ⟨fun b => ⟨fun c => ⟨hi, ?_⟩, fun c => ⟨hi, ?_⟩⟩, fun b => ⟨hi, ?_⟩⟩, fun a => ?_⟩
    · rw [if_neg a, if_neg b, if_neg c] at hQ
      rw [mtree_dep hw h0.1 hl hpl]; exact hQ
    · rw [if_neg a, if_neg b, if_pos (by simpa using c)] at hQ
      by_cases hp0 : p = 0
      · rw [if_pos hp0] at hQ
        rw [hp0, show (0 : Int).toNat = 0 from rfl, (h0.1.1.1.2.2.2.1.1 hl).1]; exact hQ
      · rw [if_neg hp0] at hQ
        rw [mtree_par hw h0.1 hpl (by omega)]; exact hQ
    · rw [if_neg a, if_pos (by simpa using b)] at hQ
      rw [(h0.1.ends hpl).2.2]; exact hQ
    · rw [if_pos (by simpa using a)] at hQ
      have := h0.1.let_ hG.1 hpl
      rw [← hpe] at this
      rw [this.2]
      exact ⟨this.1, hQ⟩
  · rw [if_pos (fun w => z2 (nob2i.mpr (inI_iff.mpr w.2.2)))] at hQ; exact hQ
def oTold (k : Int) (H : List Hd) : Int := if k < -1 then -1 else if k = -1 then ((tk H).length : Int) else if k < ((tk H).length : Int) then (tk H).getD k.toNat 0 else -9
theorem C_told {k : Int} (hG : Good S) (h : RelC I S) (hQ : Q (some (.inl (oTold k S.1.1))) I) : R 83 0 [(0, .inr (some 0)), (1, .inl k)] [] I Q := by
  have hx := hG.1.2.2.2
  unfold oTold at hQ
  refine t83_0 I _ ?_
  rw [h.1.1]
  refine ⟨fun z => ⟨fun z2 => ⟨fun z3 => ?_, fun z3 => ?_⟩, fun z2 => ?_⟩, fun z => ?_⟩
  · rw [if_neg (by omega), if_neg z2, if_neg (by omega)] at hQ; exact hQ
  · rw [if_neg (by omega), if_neg z2, if_pos (by omega)] at hQ
    have e : rd I 8 k = (tk S.1.1).getD k.toNat 0 := by
      rw [show k = ((k.toNat : Nat) : Int) by omega, rd_nat (by rw [sz8]; omega), toNat_c]
      exact h.1.2.1 _ (by omega)
    rw [e]; exact hQ
  · rw [if_neg (by omega), if_pos (by simpa using z2)] at hQ; exact hQ
  · rw [if_pos (by omega)] at hQ; exact hQ
theorem M_told {k : Int} (hG : Good S) (h : RelM I S) (hQ : ∀ I', RelM I' S → FrLo I I' → Q (some (.inl (oTold k S.1.1))) I') : R 154 0 [(0, .inr (some 77)), (1, .inl k)] [] I Q := by
  have hx := hG.1.2.2.2
  unfold oTold at hQ
  refine t154_0 I _ ?_
  dsimp only
  have h0 := h.thr (v := 0)
  have f0 := thr_lo (I := I) (v := 0)
  generalize upd2 I 77 0 0 = K at h0 f0 ⊢
  have hQ := hQ K h0 f0
  have e60 : K 79 (60 : Int).toNat = ((tk S.1.1).length : Int) := h0.1.1.1.2.2.1
  have hi : inb 60 63 := inb_nat (i := 60) (by omega)
  rw [e60]
  refine ⟨fun z => ⟨fun z2 => ⟨hi, fun z3 => ?_, fun z3 => ⟨⟨by omega, by omega⟩, ?_⟩⟩, fun z2 => ⟨hi, ?_⟩⟩, fun z => ?_⟩
  · rw [if_neg (by omega), if_neg z2, if_neg (by omega)] at hQ; exact hQ
  · rw [if_neg (by omega), if_neg z2, if_pos (by omega)] at hQ
    rw [h0.1.1.1.1.1 _ (by omega)]; exact hQ
  · rw [if_neg (by omega), if_pos (by simpa using z2)] at hQ; exact hQ
  · rw [if_pos (by omega)] at hQ; exact hQ
def oUses (c : Int) (H : List Hd) : Int := if isVal c = true ∨ isInp c = true then (cU H c 0 H.length : Int) else -1
theorem C_uses {c : Int} (hG : Good S) (h : RelC I S) (hQ : Q (some (.inl (oUses c S.1.1))) I) : R 84 0 [(0, .inr (some 0)), (1, .inl c)] [] I Q := by
  have h60 := prog_60 hG.1
  have hw := prog_wfa hG.1
  have hl := prog_pos hG.1
  unfold oUses at hQ
  have go : (isVal c = true ∨ isInp c = true) → R 74 0 [(0, .inr (some 9)), (1, .inl 0), (2, .inl c)] [] I (fun r1 I1 => ∃ v1, r1 = some (.inl v1) ∧ (Q (some (.inl v1)) I1)) := by
    intro z
    rw [if_pos z] at hQ
    refine R_uses (t := 9) (p := 0) (Or.inl rfl) h60 h.2.1.1 hl ⟨_, rfl, ?_⟩
    rw [sp_0 hw]
    exact hQ
  refine t84_0 I _ ⟨fun z => go (Or.inl (nob2i.mp z)), fun z => ⟨fun z2 => go (Or.inr (nob2i.mp z2)), fun z2 => ?_⟩⟩
  rw [if_neg (fun w => w.elim (fun w => z (nob2i.mpr w)) (fun w => z2 (nob2i.mpr w)))] at hQ
  exact hQ
theorem M_uses {c : Int} (hG : Good S) (h : RelM I S) (hQ : ∀ I', RelM I' S → FrLo I I' → Q (some (.inl (oUses c S.1.1))) I') : R 155 0 [(0, .inr (some 77)), (1, .inl c)] [] I Q := by
  have h60 := prog_60 hG.1
  unfold oUses at hQ
  refine t155_0 I _ ?_
  dsimp only
  have h0 := h.thr (v := 0)
  have f0 := thr_lo (I := I) (v := 0)
  generalize upd2 I 77 0 0 = K at h0 f0 ⊢
  have hQ := hQ K h0 f0
  have e20 : K 77 20 = (S.1.1.length : Int) := h0.1.1.1.2.1
  have loop : Q (some (.inl (cU S.1.1 c 0 S.1.1.length : Int))) K → ∀ (d j : Nat), j + d = S.1.1.length → R 155 25 [(0, .inr (some 77)), (1, .inl c), (2, .inl (cU S.1.1 c 0 j : Int)), (3, .inl (j : Int))] [] K Q := by
    intro hq d
    induction d with
    | zero =>
      intro j hj
      have : j = S.1.1.length := by omega
      subst this
      exact t155_25 K _ _ _ ⟨fun _ => hq, fun z => absurd (by rw [e20]; omega) z⟩
    | succ d ih =>
      intro j hj
      obtain ⟨l1, l2⟩ := h0.1.let_ hG.1 (p := j) (by omega)
      have hle := cU_le S.1.1 c 0 j
      have ec : cU S.1.1 c 0 (j + 1) = cU S.1.1 c 0 j + if lt S.1.1 (0 + j) = c then 1 else 0 := rfl
      rw [Nat.zero_add] at ec
      refine t155_25 K _ _ _ ⟨fun z => absurd z (by rw [e20]; omega), fun _ => ⟨l1, ?_⟩⟩
      rw [l2]
      refine ⟨fun z => ?_, fun z => ?_⟩
      · rw [if_neg z] at ec
        rw [wrap_of (x := (cU S.1.1 c 0 j : Int) + 0) (by omega) (by omega), wrap_succ (by omega)]
        have := ih (j + 1) (by omega)
        rw [ec] at this
        rw [show (cU S.1.1 c 0 j : Int) + 0 = ((cU S.1.1 c 0 j + 0 : Nat) : Int) by omega]
        exact this
      · rw [if_pos (by simpa using z)] at ec
        rw [wrap_succ (by omega), wrap_succ (by omega)]
        have := ih (j + 1) (by omega)
        rw [ec] at this
        exact this
  refine ⟨fun z => ?_, fun z => ⟨fun z2 => ?_, fun z2 => ?_⟩⟩
  · rw [if_pos (Or.inl (nob2i.mp z))] at hQ
    exact loop hQ S.1.1.length 0 (by omega)
  · rw [if_pos (Or.inr (nob2i.mp z2))] at hQ
    exact loop hQ S.1.1.length 0 (by omega)
  · rw [if_neg (fun w => w.elim (fun w => z (nob2i.mpr w)) (fun w => z2 (nob2i.mpr w)))] at hQ
    exact hQ
noncomputable def oLast (p : Int) (H : List Hd) : Int := if ¬ (0 ≤ p ∧ p < (H.length : Int)) then -1 else if lt H p.toNat = 33 then tl H p.toNat else -9
theorem C_last {p : Int} (hG : Good S) (h : RelC I S) (hQ : Q (some (.inl (oLast p S.1.1))) I) : R 86 0 [(0, .inr (some 0)), (1, .inl p)] [] I Q := by
  have hw := prog_wfa hG.1
  have e9 : I 9 0 = (S.1.1.length : Int) := h.2.1.1.1
  unfold oLast at hQ
  refine t86_0 I _ ?_
  rw [e9]
  refine ⟨fun z => ?_, fun z => ?_⟩
  · have z := inI_iff.mp (nob2i.mp z)
    rw [if_neg (by omega)] at hQ
    have hpl : p.toNat < S.1.1.length := by omega
    have hr := h.rows hG hpl
    rw [show p = ((p.toNat : Nat) : Int) by omega, hr.1, hr.2.2.2.2.2, b2i_0]
    have h01 := tl_01 hw h.2.1.2.2.2 _ hpl
    refine ⟨fun a => ⟨fun b => ?_, fun b => ?_⟩, fun a => ?_⟩
    · rw [if_pos a] at hQ
      have : tl S.1.1 p.toNat = 0 := by rcases h01 with e | e; exact e; rw [e] at b; simp at b
      rw [this] at hQ; exact hQ
    · rw [if_pos a] at hQ
      have : tl S.1.1 p.toNat = 1 := by rcases h01 with e | e; rw [e] at b; simp at b; exact e
      rw [this] at hQ; exact hQ
    · rw [if_neg a] at hQ; exact hQ
  · rw [if_pos (fun w => z (nob2i.mpr (inI_iff.mpr ⟨w.1, by omega⟩)))] at hQ; exact hQ
theorem M_last {p : Int} (hG : Good S) (h : RelM I S) (hQ : ∀ I', RelM I' S → FrLo I I' → Q (some (.inl (oLast p S.1.1))) I') : R 157 0 [(0, .inr (some 77)), (1, .inl p)] [] I Q := by
  have hw := prog_wfa hG.1
  have h60 := prog_60 hG.1
  have hl := prog_pos hG.1
  unfold oLast at hQ
  refine t157_0 I _ ?_
  dsimp only
  have h0 := h.thr (v := 0)
  have f0 := thr_lo (I := I) (v := 0)
  generalize upd2 I 77 0 0 = K at h0 f0 ⊢
  have hQ := hQ K h0 f0
  have e20 : K 77 20 = (S.1.1.length : Int) := h0.1.1.1.2.1
  rw [e20, wrap_of (by omega) (by omega)]
  refine ⟨fun z => ?_, fun z => ?_⟩
  · have z := inI_iff.mp (nob2i.mp z)
    rw [if_neg (by omega)] at hQ
    have hpl : p.toNat < S.1.1.length := by omega
    have hl := h0.1.let_ hG.1 hpl
    rw [show ((p.toNat : Nat) : Int) = p by omega] at hl
    rw [hl.2, (h0.1.2.1 _ hpl).1]
    have h01 := tl_01 hw h0.1.2.2.2 _ hpl
    refine ⟨hl.1, fun a => ⟨⟨by omega, by omega⟩, fun b => ?_, fun b => ?_⟩, fun a => ?_⟩
    · have a : lt S.1.1 p.toNat = 33 := by simpa using nob2i.mp a
      rw [if_pos a, b] at hQ; exact hQ
    · have a : lt S.1.1 p.toNat = 33 := by simpa using nob2i.mp a
      have : tl S.1.1 p.toNat = 1 := by omega
      rw [if_pos a, this] at hQ; exact hQ
    · rw [if_neg (fun w => a (nob2i.mpr (by simpa using w)))] at hQ; exact hQ
  · rw [if_pos (fun w => z (nob2i.mpr (inI_iff.mpr ⟨w.1, by omega⟩)))] at hQ; exact hQ
def oInput (k : Int) (s : Snap) : Int := if k = 0 then s.2.1 else if k = 1 then s.2.2 else 0
theorem C_input {k : Int} (h : RelC I S) (hQ : Q (some (.inl (oInput k S.1))) I) : R 100 0 [(0, .inr (some 0)), (1, .inl k)] [] I Q := by
  unfold oInput at hQ
  refine t100_0 I _ ?_
  rw [h.1.2.2.1, h.1.2.2.2]
  refine ⟨fun a => ⟨fun b => ?_, fun b => ?_⟩, fun a => ?_⟩
  · rw [if_neg a, if_neg b] at hQ; exact hQ
  · rw [if_neg a, if_pos (by simpa using b)] at hQ; exact hQ
  · rw [if_pos (by simpa using a)] at hQ; exact hQ
theorem M_input {k : Int} (h : RelM I S) (hQ : ∀ I', RelM I' S → FrLo I I' → Q (some (.inl (oInput k S.1))) I') : R 181 0 [(0, .inr (some 77)), (1, .inl k)] [] I Q := by
  unfold oInput at hQ
  refine t181_0 I _ ?_
  dsimp only
  have h0 := h.thr (v := 0)
  have f0 := thr_lo (I := I) (v := 0)
  generalize upd2 I 77 0 0 = K at h0 f0 ⊢
  have hQ := hQ K h0 f0
  have e1 : K 79 (61 : Int).toNat = S.1.2.1 := h0.2.1.1
  have e2 : K 79 (62 : Int).toNat = S.1.2.2 := h0.2.1.2
  rw [e1, e2]
  refine ⟨fun a => ⟨fun b => ?_, fun b => ⟨inb_nat (i := 62) (by omega), ?_⟩⟩, fun a => ⟨inb_nat (i := 61) (by omega), ?_⟩⟩
  · rw [if_neg a, if_neg b] at hQ; exact hQ
  · rw [if_neg a, if_pos (by simpa using b)] at hQ; exact hQ
  · rw [if_pos (by simpa using a)] at hQ; exact hQ
theorem C_status (h : RelC I S) (hQ : Q (some (.inl S.2.2.2.2.2)) I) : R 88 0 [(0, .inr (some 0))] [] I Q := by
  refine t88_0 I ?_
  rw [h.2.2.2.2.2.2]
  exact hQ
theorem M_status (h : RelM I S) (hQ : ∀ I', RelM I' S → FrLo I I' → Q (some (.inl S.2.2.2.2.2)) I') : R 170 0 [(0, .inr (some 77))] [] I Q := by
  refine t170_0 I ?_
  dsimp only
  have h0 := h.thr (v := 0)
  have f0 := thr_lo (I := I) (v := 0)
  generalize upd2 I 77 0 0 = K at h0 f0 ⊢
  rw [h0.2.2.2.2.2.2]
  exact hQ K h0 f0
end Looks
