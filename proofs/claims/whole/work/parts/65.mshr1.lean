/-! The model's times, howOf, firstShrunk. -/
def tcn (c : Int) : List Int → Nat
  | [] => 0
  | a :: t => (if a = c then 1 else 0) + tcn c t
theorem tcn_app (c : Int) : ∀ A B, tcn c (A ++ B) = tcn c A + tcn c B := by
  intro A B
  induction A with
  | nil => simp [tcn]
  | cons h t ih => simp only [List.cons_append, tcn, ih]; omega
theorem tcn_le (c : Int) : ∀ A, tcn c A ≤ A.length := by
  intro A
  induction A with
  | nil => exact Nat.le_refl _
  | cons h t ih => simp only [tcn, List.length_cons]; split <;> omega
theorem tcn_cU {H : List Hd} {c : Int} {a : Nat} : ∀ n, a + n ≤ H.length → (∀ q, a ≤ q → q < a + n → tcn c (toks (hdA H q)) = if lt H q = c then 1 else 0) → tcn c (tk (seg H a n)) = cU H c a n := by
  intro n
  induction n with
  | zero => intro _ _; rw [seg_zero]; rfl
  | succ n ih =>
    intro hl h
    unfold cU
    rw [seg_succ (by omega), tk_app, tcn_app, ih (by omega) (fun q h1 h2 => h q h1 (by omega)), tk_cons, tcn_app, h (a + n) (by omega) (by omega)]
    simp [tk, tcn]
theorem tcn_cC {H : List Hd} {c : Int} {a : Nat} : ∀ n, a + n ≤ H.length → (∀ q, a ≤ q → q < a + n → tcn c (toks (hdA H q)) = if lt H q = 33 ∧ nm H q = c then 1 else 0) → tcn c (tk (seg H a n)) = cC H c a n := by
  intro n
  induction n with
  | zero => intro _ _; rw [seg_zero]; rfl
  | succ n ih =>
    intro hl h
    unfold cC
    rw [seg_succ (by omega), tk_app, tcn_app, ih (by omega) (fun q h1 h2 => h q h1 (by omega)), tk_cons, tcn_app, h (a + n) (by omega) (by omega)]
    simp [tk, tcn]
theorem tcn_toks (c : Int) (h : Hd) : tcn c (toks h) = (if h.1 = c then 1 else 0) + ((if 1 < hds h.1 ∧ h.2.1 = c then 1 else 0) + (if 2 < hds h.1 ∧ h.2.2 = c then 1 else 0)) := by
  unfold toks
  rcases hds_cases h.1 with e | e | e <;> rw [e] <;> simp [tcn]
theorem hds_kind {c : Int} : (1 < hds c ↔ c = 64 ∨ c = 58 ∨ c = 33) ∧ (2 < hds c ↔ c = 64) := by
  unfold hds
  by_cases h1 : c = 64
  · simp [h1]
  · by_cases h2 : c = 58 ∨ c = 33
    · rw [if_neg h1, if_pos h2]
      omega
    · rw [if_neg h1, if_neg h2]
      omega
/-- the name of a binding is no other one's -/
theorem bind_uniq {H : List Hd} (hH : prog H) {p q : Nat} (hp : p < H.length) (hq : q < H.length) (ho : lt H p = 58) (hpq : q ≠ p) : (1 < hds (lt H q) → nm H q ≠ nm H p) ∧ (2 < hds (lt H q) → pm H q ≠ nm H p) := by
  have hv := bind_val hH.1 hp ho
  have b1 : 1 ≤ bcnt (nm H p) (hdA H p) := by
    unfold bcnt
    rw [if_pos (show (hdA H p).1 = 58 ∧ (hdA H p).2.1 = nm H p from ⟨ho, rfl⟩)]
    omega
  have two : 1 ≤ bcnt (nm H p) (hdA H q) → False := by
    intro b2
    have b3 := hH.2.2.1 (nm H p)
    rcases Nat.lt_or_gt_of_ne hpq with h | h
    · have := bc_two (c := nm H p) h hp; omega
    · have := bc_two (c := nm H p) h hq; omega
  refine ⟨fun h e => ?_, fun h e => ?_⟩
  · rcases hds_kind.1.mp h with h | h | h
    · have := (def_fun hH.1 hq h).1
      rw [e, (isVal_not hv).2.2.2.1] at this
      cases this
    · refine two ?_
      unfold bcnt
      rw [if_pos (show (hdA H q).1 = 58 ∧ (hdA H q).2.1 = nm H p from ⟨h, e⟩)]
      omega
    · have := (call_fun hH.1 hq h).1
      rw [e, (isVal_not hv).2.2.2.1] at this
      cases this
  · have h := hds_kind.2.mp h
    refine two ?_
    unfold bcnt
    rw [if_pos (show (hdA H q).1 = 64 ∧ (hdA H q).2.2 = nm H p from ⟨h, e⟩)]
    omega
theorem lt_nofun {H : List Hd} (he : ex kE H) {q : Nat} (hq : q < H.length) : isFun (lt H q) = false := by
  rcases hd_cases he hq with (h | h | h) | h | h | h | h | h
  · exact (isDig_not h).2.2.2.1
  · exact (isInp_not h).2.2.2.1
  · exact (isVal_not h.1).2.2.2.1
  · exact (isOpr_not h).2.2.2.1
  · rw [h]; rfl
  · rw [h.1]; rfl
  · rw [h.1]; rfl
  · rw [h.1]; rfl
theorem tcn_val {H : List Hd} (hH : prog H) {p q : Nat} (hp : p < H.length) (hq : q < H.length) (ho : lt H p = 58) (hpq : q ≠ p) : tcn (nm H p) (toks (hdA H q)) = if lt H q = nm H p then 1 else 0 := by
  obtain ⟨a, b⟩ := bind_uniq hH hp hq ho hpq
  rw [tcn_toks, if_neg (fun z : 1 < hds (hdA H q).1 ∧ (hdA H q).2.1 = nm H p => a z.1 z.2), if_neg (fun z : 2 < hds (hdA H q).1 ∧ (hdA H q).2.2 = nm H p => b z.1 z.2)]
  rfl
theorem name_not33 {H : List Hd} (hH : prog H) {q : Nat} (hq : q < H.length) : (1 < hds (lt H q) → nm H q ≠ 33) ∧ (2 < hds (lt H q) → pm H q ≠ 33) := by
  refine ⟨fun h e => ?_, fun h e => ?_⟩
  · rcases hds_kind.1.mp h with h | h | h
    · have := (def_fun hH.1 hq h).1
      rw [e] at this; cases this
    · have := bind_val hH.1 hq h
      rw [e] at this; cases this
    · have := (call_fun hH.1 hq h).1
      rw [e] at this; cases this
  · have := (def_fun hH.1 hq (hds_kind.2.mp h)).2
    rw [e] at this; cases this
theorem tcn_33 {H : List Hd} (hH : prog H) {q : Nat} (hq : q < H.length) : tcn 33 (toks (hdA H q)) = if lt H q = 33 then 1 else 0 := by
  obtain ⟨a, b⟩ := name_not33 hH hq
  rw [tcn_toks, if_neg (fun z : 1 < hds (hdA H q).1 ∧ (hdA H q).2.1 = 33 => a z.1 z.2), if_neg (fun z : 2 < hds (hdA H q).1 ∧ (hdA H q).2.2 = 33 => b z.1 z.2)]
  rfl
theorem tcn_fun {H : List Hd} (hH : prog H) {p q : Nat} (hp : p < H.length) (hq : q < H.length) (ho : lt H p = 64) (hpq : q ≠ p) : tcn (nm H p) (toks (hdA H q)) = if lt H q = 33 ∧ nm H q = nm H p then 1 else 0 := by
  have hf := (def_fun hH.1 hp ho).1
  have h1 : ¬ (hdA H q).1 = nm H p := by
    intro e
    have := lt_nofun hH.1 hq
    rw [show lt H q = nm H p from e, hf] at this
    cases this
  have h3 : ¬ (2 < hds (hdA H q).1 ∧ (hdA H q).2.2 = nm H p) := by
    rintro ⟨a, b⟩
    have := (def_fun hH.1 hq (hds_kind.2.mp a)).2
    rw [show pm H q = nm H p from b, (isFun_not hf).2.2.2.1] at this
    cases this
  rw [tcn_toks, if_neg h1, if_neg h3, Nat.zero_add, Nat.add_zero]
  by_cases e : lt H q = 33 ∧ nm H q = nm H p
  · rw [if_pos e, if_pos]
    exact ⟨hds_kind.1.mpr (Or.inr (Or.inr e.1)), e.2⟩
  · rw [if_neg e, if_neg]
    rintro ⟨a, b⟩
    rcases hds_kind.1.mp a with h | h | h
    · exact hpq (def_uniq hH hq hp h ho b)
    · have := bind_val hH.1 hq h
      rw [show nm H q = nm H p from b, (isFun_not hf).2.2.2.1] at this
      cases this
    · exact e ⟨h, b⟩
section How
variable {H : List Hd} {I : Mem} {Q : Post} {p : Nat}
theorem MAna.ends (h : MAna I H) {q : Nat} (hq : q < H.length) : I 89 q = (pos H q : Int) ∧ I 90 q = (pos H (q + sp H q) : Int) ∧ I 91 q = (sp H q : Int) := ⟨h.1.1.1.2 q hq, (h.1.2 q hq).1, (h.1.2 q hq).2⟩
theorem R_times (hH : prog H) (h : MAna I H) {q : Nat} (hq : q < H.length) {c : Int} (hQ : Q (some (.inl (tcn c (tk (xp H q)) : Int))) I) : R 138 0 [(0, .inr (some 77)), (1, .inl c), (2, .inl (q : Int))] [] I Q := by
  have h60 := prog_60 hH
  have hx := hH.2.2.2
  obtain ⟨e1, e2, -⟩ := h.ends hq
  have hps := pos_seg (H := H) (a := q) (n := sp H q)
  have hpl := pos_le H (q + sp H q)
  have etk := tk_seg (H := H) (a := q) (n := sp H q)
  have exx : tk (xp H q) = tk (seg H q (sp H q)) := rfl
  refine t138_0 I _ _ ⟨inb_nat (by omega), ?_⟩
  rw [toNat_c, e1]
  have loop : ∀ (d i : Nat), i + d = (tk (xp H q)).length → R 138 10 [(0, .inr (some 77)), (1, .inl c), (2, .inl (q : Int)), (3, .inl (tcn c (((tk H).drop (pos H q)).take i) : Int)), (4, .inl ((pos H q + i : Nat) : Int))] [] I Q := by
    intro d
    induction d with
    | zero =>
      intro i hi
      have : pos H (q + sp H q) - pos H q = i := by rw [exx] at hi; omega
      rw [this] at etk
      refine t138_10 I _ _ _ _ ⟨inb_nat (by omega), fun _ => ?_, fun z => absurd (by rw [toNat_c, e2]; rw [exx] at hi; omega) z⟩
      rw [etk]
      exact hQ
    | succ d ih =>
      intro i hi
      rw [exx] at hi
      have hlt : pos H q + i < (tk H).length := by omega
      have ec : I 79 (pos H q + i) = (tk H).getD (pos H q + i) 0 := h.1.1.1.1 _ hlt
      have hle := tcn_le c (((tk H).drop (pos H q)).take i)
      rw [List.length_take, List.length_drop] at hle
      have step := take_succ_getD (tk H) (pos H q) i hlt
      refine t138_10 I _ _ _ _ ⟨inb_nat (by omega), fun z => absurd z (by rw [toNat_c, e2]; omega), fun _ => ⟨inb_nat (by omega), fun z => ?_, fun z => ?_⟩⟩
      · rw [toNat_c, ec] at z
        have := ih (i + 1) (by rw [exx]; omega)
        rw [step, tcn_app] at this
        rw [wrap_of (x := _ + 0) (by omega) (by omega), wrap_succ (by omega)]
        have e0 : tcn c [(tk H).getD (pos H q + i) 0] = 0 := by unfold tcn; rw [if_neg z]; rfl
        rw [e0] at this
        rw [show ((tcn c (((tk H).drop (pos H q)).take i) : Nat) : Int) + 0 = ((tcn c (((tk H).drop (pos H q)).take i) + 0 : Nat) : Int) by omega]
        exact this
      · rw [toNat_c, ec] at z
        have z : (tk H).getD (pos H q + i) 0 = c := by simpa using z
        have := ih (i + 1) (by rw [exx]; omega)
        rw [step, tcn_app] at this
        rw [wrap_succ (by omega), wrap_succ (by omega)]
        have e0 : tcn c [(tk H).getD (pos H q + i) 0] = 1 := by unfold tcn; rw [if_pos z]; rfl
        rw [e0] at this
        exact this
  have := loop (tk (xp H q)).length 0 (by omega)
  exact this
theorem pts_leaf {H : List Hd} (he : ex kE H) {q : Nat} (hq : q < H.length) : pts (lt H q) = 0 ↔ (isDig (lt H q) = true ∨ isVal (lt H q) = true ∨ isInp (lt H q) = true) := by
  constructor
  · intro h
    rcases hd_cases he hq with (h1 | h1 | h1) | h1 | h1 | h1 | h1 | h1
    · exact Or.inl h1
    · exact Or.inr (Or.inr h1)
    · exact Or.inr (Or.inl h1.1)
    · rw [show pts (lt H q) = 2 by simp [pts, h1]] at h; omega
    · rw [h1] at h; cases h
    · rw [h1.1] at h; cases h
    · rw [h1.1] at h; cases h
    · rw [h1.1] at h; cases h
  · intro h; exact (leaf_pts h).1
theorem R_howOf (hH : prog H) (h : MAna I H) (hp : p < H.length) (hQ : Q (some (.inl (rule H p : Int))) I) : R 141 0 [(0, .inr (some 77)), (1, .inl (p : Int))] [] I Q := by
  have hw := prog_wfa hH
  have h60 := prog_60 hH
  obtain ⟨l1, l2⟩ := h.let_ hH hp
  refine t141_0 I _ ⟨l1, fun c => ?_, fun c => ?_⟩
  · rw [l2] at c
    have hpt : 2 ≤ pts (lt H p) := by omega
    have hk0 := kp_len hw hp (j := 0) (by omega)
    have hk1 := kp_len hw hp (j := 1) (by omega)
    have hs0 := sp_le (H := H) (p := kp H p 0) (by omega)
    have hs1 := sp_le (H := H) (p := kp H p 1) (by omega)
    have g0 : p < kp H p 0 := kp_gt
    have g1 : p < kp H p 1 := kp_gt
    have k0 : mkidP (p : Int) 0 ∧ mkid I (p : Int) 0 = (kp H p 0 : Int) := h.kid hH (j := 0) hp (by omega)
    have k1 : mkidP (p : Int) 1 ∧ mkid I (p : Int) 1 = (kp H p 1 : Int) := h.kid hH (j := 1) hp (by omega)
    obtain ⟨m1, m2⟩ := h.let_ hH hk0
    obtain ⟨n1, n2⟩ := h.let_ hH hk1
    rw [k0.2, k1.2, l2, m2]
    refine ⟨k0.1, k1.1, m1, ?_⟩
    unfold rule at hQ
    refine t141_41 I _ _ _ _ _ ?_
    rw [b2i_0, b2i_0]
    refine ⟨fun c1 => ⟨fun c2 => ?_, fun c2 => ?_⟩, fun c1 => ⟨fun c2 => ?_, fun c2 => ⟨n1, ?_⟩⟩⟩
    · rw [if_neg (by rw [c1]; decide), if_neg c2] at hQ
      have hkind : lt H p = 58 ∨ lt H p = 64 := by
        rcases hd_cases hH.1 hp with (z | z | z) | z | z | z | z | z
        · rw [(leaf_pts (Or.inl z)).1] at hpt; omega
        · rw [(leaf_pts (Or.inr (Or.inr z))).1] at hpt; omega
        · rw [(leaf_pts (Or.inr (Or.inl z.1))).1] at hpt; omega
        · rw [c1] at z; cases z
        · exact absurd z c2
        · exact Or.inl z.1
        · exact Or.inr z.1
        · rw [z.1] at hpt; exact absurd hpt (by decide)
      obtain ⟨f1, f2⟩ := h.fun_ hH hp (hds_kind.1.mpr (by omega))
      refine t141_112 I _ _ _ _ ⟨f1, ?_⟩
      rw [f2]
      refine R_times hH h hk1 ⟨_, rfl, fun c3 => ?_, fun c3 => ?_⟩
      · have h64 : lt H p = 64 := by omega
        rw [if_neg c3, if_pos h64] at hQ
        have eS : tcn (nm H p) (tk (xp H (kp H p 1))) = cS H p := tcn_cC _ hs1 (fun q a b => tcn_fun hH hp (by omega) h64 (by omega))
        have eB : tcn (nm H p) (tk (xp H (kp H p 0))) = cB H p := tcn_cC _ hs0 (fun q a b => tcn_fun hH hp (by omega) h64 (by omega))
        rw [eS]
        refine ⟨fun c4 => ⟨fun c5 => ?_, fun c5 => ?_⟩, fun c4 => ?_⟩
        · rw [if_neg (by omega), if_neg (by omega)] at hQ; exact hQ
        · refine R_times hH h hk0 ⟨_, rfl, ?_⟩
          rw [eB]
          refine ⟨fun c6 => ?_, fun c6 => ?_⟩
          · rw [if_neg (by omega), if_neg (by omega)] at hQ; exact hQ
          · rw [if_neg (by omega), if_pos (by omega)] at hQ; exact hQ
        · rw [if_pos (by omega)] at hQ; exact hQ
      · have h58 : lt H p = 58 := by simpa using c3
        rw [if_pos h58] at hQ
        have eU : tcn (nm H p) (tk (xp H (kp H p 1))) = uU H p := tcn_cU _ hs1 (fun q a b => tcn_val hH hp (by omega) h58 (by omega))
        have eF : tcn 33 (tk (xp H (kp H p 0))) = cF H p := tcn_cU _ hs0 (fun q a b => tcn_33 hH (by omega))
        rw [eU]
        refine R_times hH h hk0 ⟨_, rfl, ?_⟩
        rw [eF]
        have fin : ∀ y : Int, (y = 0 ↔ cF H p ≠ 0) → R 141 150 [(0, .inr (some 77)), (3, .inl (kp H p 0 : Int)), (7, .inl (uU H p : Int))] [.inl y] I Q := by
          intro y hy
          have hlf := pts_leaf hH.1 hk0
          have hyc : ¬ y = 0 → cF H p = 0 := by
            intro z
            rcases Nat.eq_zero_or_pos (cF H p) with w | w
            · exact w
            · exact absurd (hy.mpr (by omega)) z
          refine t141_150 I _ _ _ ?_
          rw [m2]
          by_cases h3 : uU H p = 0 ∧ cF H p = 0
          · rw [if_pos h3] at hQ
            refine ⟨fun z => absurd z (by omega), fun _ => ⟨fun z => absurd h3.2 (hy.mp z), fun _ => hQ⟩⟩
          · rw [if_neg h3] at hQ
            by_cases h4 : pts (lt H (kp H p 0)) = 0
            · rw [if_pos (hlf.mp h4)] at hQ
              exact ⟨fun z => ⟨m1, fun z2 => absurd (by omega) z2, fun _ => hQ⟩, fun z => ⟨fun _ => ⟨m1, fun z2 => absurd (by omega) z2, fun _ => hQ⟩, fun z2 => absurd ⟨by omega, hyc z2⟩ h3⟩⟩
            · rw [if_neg (fun z => h4 (hlf.mpr z))] at hQ
              have body : (¬ (uU H p : Int) = 1 → Q (some (.inl 0)) I) ∧ (¬ (¬ (uU H p : Int) = 1) → ((y = 0 → Q (some (.inl 0)) I) ∧ (¬ (y = 0) → Q (some (.inl 5)) I))) := by
                refine ⟨fun z => ?_, fun z => ⟨fun z2 => ?_, fun z2 => ?_⟩⟩
                · rw [if_neg (by omega)] at hQ; exact hQ
                · rw [if_neg (fun w => hy.mp z2 w.2)] at hQ; exact hQ
                · rw [if_pos ⟨by omega, hyc z2⟩] at hQ; exact hQ
              exact ⟨fun z => ⟨m1, fun _ => body, fun z2 => absurd (by omega) z2⟩, fun z => ⟨fun _ => ⟨m1, fun _ => body, fun z2 => absurd (by omega) z2⟩, fun z2 => absurd ⟨by omega, hyc z2⟩ h3⟩⟩
        exact ⟨fun z => fin 0 ⟨fun _ => by omega, fun _ => rfl⟩, fun z => fin 1 ⟨fun w => by omega, fun w => absurd (by omega) w⟩⟩
    · rw [if_neg (by rw [c1]; decide), if_pos (by simpa using c2)] at hQ
      refine ⟨fun c3 => ?_, fun c3 => ?_⟩
      · rw [if_neg (by rw [c3]; decide)] at hQ; exact hQ
      · rw [if_pos (by simpa using c3)] at hQ; exact hQ
    · rw [if_pos (by simpa using c1), if_neg (fun q => by rw [c2] at q; cases q.1)] at hQ; exact hQ
    · have d0 : isDig (lt H (kp H p 0)) = true := by simpa using c2
      have r0 := dig_rng d0
      rw [n2, b2i_0]
      rw [if_pos (by simpa using c1)] at hQ
      refine ⟨fun c3 => ?_, fun c3 => ⟨m1, n1, ?_⟩⟩
      · rw [if_neg (fun q => by rw [c3] at q; cases q.2.1)] at hQ; exact hQ
      · have d1 : isDig (lt H (kp H p 1)) = true := by simpa using c3
        have r1 := dig_rng d1
        rw [m2, wrap_of (x := lt H (kp H p 0) - 48) (by omega) (by omega), wrap_of (x := lt H (kp H p 1) - 48) (by omega) (by omega), b2i_0]
        have eo : oper (lt H p) (lt H (kp H p 0) - 48) (lt H (kp H p 1) - 48) = opv H p := rfl
        rw [eo]
        refine ⟨fun c4 => ?_, fun c4 => ?_⟩
        · rw [if_neg (fun q => by have : inI (opv H p) 0 9 = true := by (unfold inI; simp; exact q.2.2)
                                  rw [c4] at this; cases this)] at hQ; exact hQ
        · have : 0 ≤ opv H p ∧ opv H p ≤ 9 := by simpa [inI] using c4
          rw [if_pos ⟨d0, d1, this⟩] at hQ; exact hQ
  · rw [l2] at c
    have hz : rule H p = 0 := by
      unfold rule
      rw [if_neg (fun z => c (by rw [show pts (lt H p) = 2 by simp [pts, z]]; omega)), if_neg (fun z => c (by rw [z]; decide)), if_neg (fun z => c (by rw [z]; decide)), if_neg (fun z => c (by rw [z]; decide))]
    rw [hz] at hQ
    exact hQ
end How
/-- what the model's look leaves as it was -/
def FrH (I J : Mem) : Prop := (∀ id, id ≠ 77 → J id = I id) ∧ ∀ k, k ≠ 32 → J 77 k = I 77 k
theorem FrH.rfl' {I : Mem} : FrH I I := ⟨fun _ _ => rfl, fun _ _ => rfl⟩
theorem MAna.fr' {I J : Mem} {H : List Hd} (h : MAna I H) (e1 : ∀ id, (id = 79 ∨ (89 ≤ id ∧ id ≤ 99)) → J id = I id) (e20 : J 77 20 = I 77 20) : MAna J H := by
  unfold MAna MTree LMod MTx PMod EMd MFlow Txt at h ⊢
  rw [e1 79 (by decide), e1 89 (by decide), e1 90 (by decide), e1 91 (by decide), e1 92 (by decide), e1 93 (by decide), e1 94 (by decide), e1 95 (by decide), e1 96 (by decide), e1 99 (by decide), e20]
  exact h
theorem R_firstShrunk {H : List Hd} {I : Mem} {Q : Post} (hH : prog H) (h : MAna I H) (h1 : ¬ fsh H < H.length → ∀ J, FrH I J → Q (some (.inl (-9))) J) (h2 : fsh H < H.length → ∀ J, FrH I J → J 77 32 = (rule H (fsh H) : Int) → Q (some (.inl (fsh H : Int))) J) : R 142 0 [(0, .inr (some 77))] [] I Q := by
  have h60 := prog_60 hH
  refine t142_0 I ?_
  have loop : ∀ n p (J : Mem), p + n = H.length → fst H n p = fsh H → FrH I J → R 142 2 [(0, .inr (some 77)), (1, .inl (p : Int))] [] J Q := by
    intro n
    induction n with
    | zero =>
      intro p J hp hf hF
      have hz : fst H 0 p = p := rfl
      have e20 : J 77 20 = (H.length : Int) := by rw [hF.2 20 (by decide)]; exact h.1.1.2.1
      exact t142_2 J _ ⟨fun _ => h1 (by omega) J hF, fun q => absurd (by rw [e20]; omega) q⟩
    | succ n ih =>
      intro p J hp hf hF
      unfold fst at hf
      have e20 : J 77 20 = (H.length : Int) := by rw [hF.2 20 (by decide)]; exact h.1.1.2.1
      have hJ : MAna J H := h.fr' (fun id hid => hF.1 id (by omega)) (hF.2 20 (by decide))
      refine t142_2 J _ ⟨fun q => absurd q (by rw [e20]; omega), fun _ => R_howOf hH hJ (by omega) ⟨_, rfl, ?_⟩⟩
      dsimp only
      have e32 : upd2 J 77 32 (rule H p : Int) 77 32 = (rule H p : Int) := by simp [upd2]
      have hF2 : FrH I (upd2 J 77 32 (rule H p : Int)) := ⟨fun id a => by rw [upd2_id a]; exact hF.1 id a, fun k hk => by rw [upd2_at, if_neg (fun q => hk q.2)]; exact hF.2 k hk⟩
      rw [e32]
      refine ⟨fun c => ?_, fun c => ?_⟩
      · rw [if_neg (by omega)] at hf
        rw [wrap_succ (by omega)]
        exact ih (p + 1) _ (by omega) hf hF2
      · rw [if_pos (by omega)] at hf
        subst hf
        exact h2 (by omega) _ hF2 e32
  exact loop H.length 0 I (by omega) rfl FrH.rfl'
