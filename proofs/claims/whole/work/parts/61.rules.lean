/-! The rules, and what they make of a program. -/
def uU (H : List Hd) (p : Nat) : Nat := cU H (nm H p) (kp H p 1) (sp H (kp H p 1))
def cF (H : List Hd) (p : Nat) : Nat := cU H 33 (kp H p 0) (sp H (kp H p 0))
def cS (H : List Hd) (p : Nat) : Nat := cC H (nm H p) (kp H p 1) (sp H (kp H p 1))
def cB (H : List Hd) (p : Nat) : Nat := cC H (nm H p) (kp H p 0) (sp H (kp H p 0))
def opv (H : List Hd) (p : Nat) : Int := oper (lt H p) (lt H (kp H p 0) - 48) (lt H (kp H p 1) - 48)
def rule (H : List Hd) (p : Nat) : Nat :=
  if isOpr (lt H p) = true then (if isDig (lt H (kp H p 0)) = true ∧ isDig (lt H (kp H p 1)) = true ∧ 0 ≤ opv H p ∧ opv H p ≤ 9 then 1 else 0)
  else if lt H p = 63 then (if isDig (lt H (kp H p 0)) = true then 2 else 0)
  else if lt H p = 58 then (if uU H p = 0 ∧ cF H p = 0 then 3 else if isDig (lt H (kp H p 0)) = true ∨ isVal (lt H (kp H p 0)) = true ∨ isInp (lt H (kp H p 0)) = true then 4 else if uU H p = 1 ∧ cF H p = 0 then 5 else 0)
  else if lt H p = 64 then (if cS H p = 0 then 6 else if cS H p = 1 ∧ cB H p = 0 then 7 else 0)
  else 0
/-- the last call of F in a stretch -/
def lcl (H : List Hd) (F : Int) (a : Nat) : Nat → Nat
  | 0 => a
  | n + 1 => if lt H (a + n) = 33 ∧ nm H (a + n) = F then a + n else lcl H F a n
def cq (H : List Hd) (p : Nat) : Nat := lcl H (nm H p) (kp H p 1) (sp H (kp H p 1))
def newB (H : List Hd) (p : Nat) : List Hd :=
  if rule H p = 1 then [(48 + opv H p, 0, 0)]
  else if rule H p = 2 then (if lt H (kp H p 0) = 48 then xp H (kp H p 1) else xp H (kp H p 2))
  else if rule H p = 4 ∨ rule H p = 5 then sub (nm H p) (xp H (kp H p 0)) (xp H (kp H p 1))
  else if rule H p = 7 then seg H (kp H p 1) (cq H p - kp H p 1) ++ ((58, pm H p, 0) :: (xp H (kp H (cq H p) 0) ++ (xp H (kp H p 0) ++ seg H (cq H p + sp H (cq H p)) (kp H p 1 + sp H (kp H p 1) - (cq H p + sp H (cq H p))))))
  else xp H (kp H p 1)
def newH (H : List Hd) (p : Nat) : List Hd := H.take p ++ (newB H p ++ H.drop (p + sp H p))
theorem bc_app (c : Int) (A B : List Hd) : bc c (A ++ B) = bc c A + bc c B := by unfold bc; rw [List.map_append, List.sum_append]
theorem bc_cons (c : Int) (h : Hd) (B : List Hd) : bc c (h :: B) = bcnt c h + bc c B := by unfold bc; rw [List.map_cons, List.sum_cons]
theorem bc_nil (c : Int) : bc c [] = 0 := rfl
theorem tk_len_app (A B : List Hd) : (tk (A ++ B)).length = (tk A).length + (tk B).length := by rw [tk_app, List.length_append]
theorem tk_len_cons (h : Hd) (B : List Hd) : (tk (h :: B)).length = hds h.1 + (tk B).length := by rw [tk_cons, List.length_append, toks_len]
theorem tk_len_nil : (tk []).length = 0 := rfl
theorem repl_prog {H : List Hd} (hH : prog H) {p : Nat} (hp : p < H.length) {B : List Hd} (h1 : ex (Kf H p) B) (h2 : norm B) (h3 : ∀ c, bc c B ≤ bc c (xp H p)) (h4 : (tk B).length < (tk (xp H p)).length) :
    prog (H.take p ++ (B ++ H.drop (p + sp H p))) ∧ (tk (H.take p ++ (B ++ H.drop (p + sp H p)))).length < (tk H).length := by
  have hs := seg_split (H := H) p (sp H p)
  have el : (tk (H.take p ++ (B ++ H.drop (p + sp H p)))).length < (tk H).length := by
    conv => rhs; rw [← hs]
    rw [tk_len_app, tk_len_app, tk_len_app, tk_len_app]
    have : (tk (seg H p (sp H p))).length = (tk (xp H p)).length := rfl
    omega
  refine ⟨⟨ex_repl hH.1 hp h1, fun h hm => ?_, fun c => ?_, ?_⟩, el⟩
  · rcases List.mem_append.mp hm with hm | hm
    · exact hH.2.1 h (List.mem_of_mem_take hm)
    · rcases List.mem_append.mp hm with hm | hm
      · exact h2 h hm
      · exact hH.2.1 h (List.mem_of_mem_drop hm)
  · have e := hH.2.2.1 c
    rw [← hs, bc_app, bc_app] at e
    rw [bc_app, bc_app]
    have := h3 c
    have e2 : bc c (seg H p (sp H p)) = bc c (xp H p) := rfl
    omega
  · have := hH.2.2.2
    omega
theorem norm_seg {H : List Hd} (hn : norm H) (a n : Nat) : norm (seg H a n) := fun h hm => hn h (List.mem_of_mem_drop (List.mem_of_mem_take hm))
theorem cU_zero {H : List Hd} {L : Int} {a : Nat} : ∀ {n : Nat}, cU H L a n = 0 → ∀ q, a ≤ q → q < a + n → lt H q ≠ L := by
  intro n
  induction n with
  | zero => intro _ q h1 h2; omega
  | succ n ih =>
    intro h q h1 h2 e
    unfold cU at h
    by_cases hq : q = a + n
    · rw [← hq, if_pos e] at h; omega
    · exact ih (by omega) q h1 (by omega) e
theorem cC_zero {H : List Hd} {F : Int} {a : Nat} : ∀ {n : Nat}, cC H F a n = 0 → ∀ q, a ≤ q → q < a + n → ¬ (lt H q = 33 ∧ nm H q = F) := by
  intro n
  induction n with
  | zero => intro _ q h1 h2; omega
  | succ n ih =>
    intro h q h1 h2 e
    unfold cC at h
    by_cases hq : q = a + n
    · rw [← hq, if_pos e] at h; omega
    · exact ih (by omega) q h1 (by omega) e
theorem cC_one {H : List Hd} {F : Int} {a : Nat} : ∀ {n : Nat}, cC H F a n = 1 → a ≤ lcl H F a n ∧ lcl H F a n < a + n ∧ lt H (lcl H F a n) = 33 ∧ nm H (lcl H F a n) = F ∧ ∀ q, a ≤ q → q < a + n → lt H q = 33 → nm H q = F → q = lcl H F a n := by
  intro n
  induction n with
  | zero => intro h; cases h
  | succ n ih =>
    intro h
    unfold cC at h
    unfold lcl
    by_cases e : lt H (a + n) = 33 ∧ nm H (a + n) = F
    · rw [if_pos e] at h ⊢
      refine ⟨by omega, by omega, e.1, e.2, fun q h1 h2 h3 h4 => ?_⟩
      by_cases hq : q = a + n
      · exact hq
      · exact absurd ⟨h3, h4⟩ (cC_zero (n := n) (by omega) q h1 (by omega))
    · rw [if_neg e] at h ⊢
      obtain ⟨a1, a2, a3, a4, a5⟩ := ih h
      refine ⟨a1, by omega, a3, a4, fun q h1 h2 h3 h4 => ?_⟩
      by_cases hq : q = a + n
      · rw [hq] at h3 h4; exact absurd ⟨h3, h4⟩ e
      · exact a5 q h1 (by omega) h3 h4
/-- how often a letter begins a head -/
def cntV (v : Int) : List Hd → Nat
  | [] => 0
  | h :: t => (if h.1 = v then 1 else 0) + cntV v t
theorem cntV_app (v : Int) : ∀ A B, cntV v (A ++ B) = cntV v A + cntV v B := by
  intro A B
  induction A with
  | nil => simp [cntV]
  | cons h t ih => simp only [List.cons_append, cntV, ih]; omega
theorem cU_seg {H : List Hd} {v : Int} {a : Nat} : ∀ {n : Nat}, a + n ≤ H.length → cU H v a n = cntV v (seg H a n) := by
  intro n
  induction n with
  | zero => intro _; rw [seg_zero]; rfl
  | succ n ih =>
    intro h
    unfold cU
    rw [seg_succ (by omega), cntV_app, ih (by omega)]
    show _ = _ + ((if lt H (a + n) = v then 1 else 0) + 0)
    rw [Nat.add_zero]
theorem mem_sub {v : Int} {X Y : List Hd} {h : Hd} (hm : h ∈ sub v X Y) : h ∈ X ∨ h ∈ Y := by
  unfold sub at hm
  obtain ⟨y, hy, hh⟩ := List.mem_flatMap.mp hm
  split at hh
  · exact Or.inl hh
  · simp at hh; rw [hh]; exact Or.inr hy
theorem bc_sub {v c : Int} {X : List Hd} (hv : isVal v = true) : ∀ Y, bc c (sub v X Y) = bc c Y + cntV v Y * bc c X := by
  intro Y
  induction Y with
  | nil => simp [sub, bc, cntV]
  | cons h t ih =>
    rw [sub_cons, bc_app, bc_cons, ih]
    simp only [cntV]
    by_cases e : h.1 = v
    · rw [if_pos e, if_pos e]
      have hz : bcnt c h = 0 := by
        obtain ⟨-, -, -, -, -, a6, a7, -⟩ := isVal_not hv
        unfold bcnt
        rw [e]
        simp [a6, a7]
      rw [hz, Nat.add_mul]
      omega
    · rw [if_neg e, if_neg e, bc_cons, bc_nil, Nat.zero_add]
      omega
theorem len_sub {v : Int} {X : List Hd} (hv : isVal v = true) : ∀ Y, (tk (sub v X Y)).length + cntV v Y = (tk Y).length + cntV v Y * (tk X).length := by
  intro Y
  induction Y with
  | nil => simp [sub, tk, cntV]
  | cons h t ih =>
    rw [sub_cons, tk_len_app, tk_len_cons]
    simp only [cntV]
    by_cases e : h.1 = v
    · rw [if_pos e, if_pos e]
      have hz : hds h.1 = 1 := by
        obtain ⟨-, -, -, -, -, a6, a7, a8⟩ := isVal_not hv
        unfold hds
        rw [e, if_neg a7, if_neg (by omega)]
      rw [hz, Nat.add_mul]
      omega
    · rw [if_neg e, if_neg e, tk_len_cons, tk_len_nil, Nat.zero_add]
      omega
theorem leaf_pts {c : Int} (h : isDig c = true ∨ isVal c = true ∨ isInp c = true) : pts c = 0 ∧ hds c = 1 ∧ c ≠ 58 ∧ c ≠ 64 := by
  rcases h with h | h | h
  · have := isDig_not h; simp [pts, hds, this]
  · have := isVal_not h; simp [pts, hds, this]
  · have := isInp_not h; simp [pts, hds, this]
theorem xp_leaf {H : List Hd} {q : Nat} (hq : q < H.length) (h : isDig (lt H q) = true ∨ isVal (lt H q) = true ∨ isInp (lt H q) = true) : xp H q = [hdA H q] ∧ sp H q = 1 := by
  have e := kp_last hq
  rw [(leaf_pts h).1, kp_zero] at e
  have es : sp H q = 1 := by omega
  unfold xp
  rw [es]
  exact ⟨seg_one hq, rfl⟩
theorem xp_pos {H : List Hd} (hw : wfa H) {q : Nat} (hq : q < H.length) : 0 < (tk (xp H q)).length := by
  have h1 := len_tk (xp H q)
  rw [xp_len (by omega)] at h1
  have := sp_pos hw hq
  omega
theorem bcnt_dig {c : Int} {h : Hd} (h1 : h.1 ≠ 58) (h2 : h.1 ≠ 64) : bcnt c h = 0 := by
  unfold bcnt
  simp [h1, h2]
theorem dig_of {n : Int} (h0 : 0 ≤ n) (h9 : n ≤ 9) : isDig (48 + n) = true := by
  unfold isDig
  simp
  omega
/-- the stretch of the second part around the only call -/
theorem call_split {H : List Hd} (hH : prog H) {a q : Nat} (ha : a < H.length) (h1 : a ≤ q) (h2 : q < a + sp H a) (hl : lt H q = 33) :
    q + sp H q ≤ a + sp H a ∧ xp H a = seg H a (q - a) ++ (hdA H q :: (xp H (kp H q 0) ++ seg H (q + sp H q) (a + sp H a - (q + sp H q)))) := by
  have hw := prog_wfa hH
  have hal := sp_le (H := H) (p := a) (by omega)
  have hn := nest hw ha h1 h2
  refine ⟨hn, ?_⟩
  have hq : q < H.length := by omega
  have e1 := xp1 hq (by rw [hl]; rfl)
  have es : sp H a = (q - a) + (sp H q + (a + sp H a - (q + sp H q))) := by omega
  have e2 : xp H a = seg H a ((q - a) + (sp H q + (a + sp H a - (q + sp H q)))) := by
    show seg H a (sp H a) = _
    rw [← es]
  rw [e2, seg_add, seg_add, show a + (q - a) = q by omega]
  have e3 : seg H q (sp H q) = hdA H q :: xp H (kp H q 0) := e1
  rw [e3]
  rfl
theorem new_prog {H : List Hd} (hH : prog H) {p : Nat} (hp : p < H.length) (hr : rule H p ≠ 0) : prog (newH H p) ∧ (tk (newH H p)).length < (tk H).length := by
  have hw := prog_wfa hH
  have he := hH.1
  have hn := hH.2.1
  have key : ex (Kf H p) (newB H p) ∧ norm (newB H p) ∧ (∀ c, bc c (newB H p) ≤ bc c (xp H p)) ∧ (tk (newB H p)).length < (tk (xp H p)).length := by
    unfold newB
    unfold rule at hr ⊢
    split at hr
    next ho =>
      -- operators
      have hpt : pts (lt H p) = 2 := by simp [pts, ho]
      split at hr
      next hc =>
        rw [if_pos ho, if_pos hc, if_pos rfl]
        have k0 := kp_len hw hp (j := 0) (by omega)
        have k1 := kp_len hw hp (j := 1) (by omega)
        have hd := dig_of hc.2.2.1 hc.2.2.2
        have hh := (leaf_pts (Or.inl hd)).2.1
        refine ⟨?_, fun h hm => ?_, fun c => ?_, ?_⟩
        · unfold ex
          refine fl_cons.mpr ⟨[], cs_leaf (Or.inl hd), rfl⟩
        · simp at hm
          rw [hm]
          exact ⟨fun _ => rfl, fun _ => rfl⟩
        · have h1 := isDig_not hd
          rw [bc_cons, bc_nil, bcnt_dig h1.2.2.2.2.2.1 h1.2.2.2.2.2.2.1]
          omega
        · rw [xp2 hp hpt, tk_len_cons, tk_len_cons, tk_len_nil, tk_len_app]
          have a0 := xp_pos hw k0
          have a1 := xp_pos hw k1
          have := hds_pos (hdA H p).1
          show hds (48 + opv H p) + 0 < _
          omega
      next => exact absurd rfl hr
    next ho =>
    split at hr
    next h63 =>
      have hpt : pts (lt H p) = 3 := by rw [h63]; rfl
      split at hr
      next hc =>
        rw [if_neg ho, if_pos h63, if_pos hc, if_neg (by decide), if_pos rfl]
        have k0 := kp_len hw hp (j := 0) (by omega)
        have k1 := kp_len hw hp (j := 1) (by omega)
        have k2 := kp_len hw hp (j := 2) (by omega)
        have a0 := xp_pos hw k0
        have a1 := xp_pos hw k1
        have a2 := xp_pos hw k2
        have hhd := hds_pos (hdA H p).1
        have ex1 : ex (Kf H p) (xp H (kp H p 1)) := by rw [← Kf_same he hw hp (j := 1) (by omega) (Or.inr (Or.inl h63))]; exact ex_xp he k1
        have ex2 : ex (Kf H p) (xp H (kp H p 2)) := by rw [← Kf_same he hw hp (j := 2) (by omega) (Or.inr (Or.inl h63))]; exact ex_xp he k2
        have hx := xp3 hp hpt
        split
        · refine ⟨ex1, norm_seg hn _ _, fun c => ?_, ?_⟩
          · rw [hx, bc_cons, bc_app, bc_app]; omega
          · rw [hx, tk_len_cons, tk_len_app, tk_len_app]; omega
        · refine ⟨ex2, norm_seg hn _ _, fun c => ?_, ?_⟩
          · rw [hx, bc_cons, bc_app, bc_app]; omega
          · rw [hx, tk_len_cons, tk_len_app, tk_len_app]; omega
      next => exact absurd rfl hr
    next h63 =>
    split at hr
    next h58 =>
      have hpt : pts (lt H p) = 2 := by rw [h58]; rfl
      have k0 := kp_len hw hp (j := 0) (by omega)
      have k1 := kp_len hw hp (j := 1) (by omega)
      have s1 := sp_le (H := H) (p := kp H p 1) (by omega)
      have hv := bind_val he hp h58
      have hx := xp2 hp hpt
      have ex0 : ex (Kf H p) (xp H (kp H p 0)) := by rw [← Kf_same he hw hp (j := 0) (by omega) (Or.inr (Or.inr (Or.inl ⟨h58, rfl⟩)))]; exact ex_xp he k0
      have ex1 : ex (ins (Kf H p) (nm H p)) (xp H (kp H p 1)) := by rw [← Kf_bind he hw hp h58]; exact ex_xp he k1
      have hhd : hds (hdA H p).1 = 2 := by show hds (lt H p) = 2; rw [h58]; rfl
      have hcu : uU H p = cntV (nm H p) (xp H (kp H p 1)) := cU_seg s1
      have esub := ex_sub hv ex0 ex1
      have nsub : norm (sub (nm H p) (xp H (kp H p 0)) (xp H (kp H p 1))) := fun h hm => by
        rcases mem_sub hm with hm | hm
        · exact norm_seg hn _ _ h hm
        · exact norm_seg hn _ _ h hm
      have a0 := xp_pos hw k0
      split at hr
      next hc =>
        rw [if_neg ho, if_neg h63, if_pos h58, if_pos hc, if_neg (by decide), if_neg (by decide), if_neg (by decide), if_neg (by decide)]
        refine ⟨ex_drop ex1 (fun h hm => ?_), norm_seg hn _ _, fun c => ?_, ?_⟩
        · obtain ⟨q, q1, q2, rfl⟩ := mem_seg s1 hm
          rintro (⟨-, q3⟩ | ⟨-, -, q3⟩)
          · exact cU_zero hc.1 q q1 q2 q3
          · rw [(isVal_not hv).2.2.2.1] at q3; cases q3
        · rw [hx, bc_cons, bc_app]; omega
        · rw [hx, tk_len_cons, tk_len_app]; omega
      next hc =>
      split at hr
      next hc2 =>
        rw [if_neg ho, if_neg h63, if_pos h58, if_neg hc, if_pos hc2, if_neg (by decide), if_neg (by decide), if_pos (by decide)]
        have hlf := (xp_leaf k0 hc2).1
        obtain ⟨-, b2, b3, b4⟩ := leaf_pts hc2
        refine ⟨esub, nsub, fun c => ?_, ?_⟩
        · have z : bc c (xp H (kp H p 0)) = 0 := by rw [hlf, bc_cons, bc_nil, bcnt_dig b3 b4]
          rw [bc_sub hv, hx, bc_cons, bc_app, z, Nat.mul_zero]
          omega
        · have z : (tk (xp H (kp H p 0))).length = 1 := by rw [hlf, tk_len_cons, tk_len_nil]; show hds (lt H (kp H p 0)) + 0 = 1; omega
          have := len_sub (X := xp H (kp H p 0)) hv (xp H (kp H p 1))
          rw [z, Nat.mul_one] at this
          rw [hx, tk_len_cons, tk_len_app]
          omega
      next hc2 =>
      split at hr
      next hc3 =>
        rw [if_neg ho, if_neg h63, if_pos h58, if_neg hc, if_neg hc2, if_pos hc3, if_neg (by decide), if_neg (by decide), if_pos (by decide)]
        rw [hcu] at hc3
        refine ⟨esub, nsub, fun c => ?_, ?_⟩
        · rw [bc_sub hv, hx, bc_cons, bc_app, hc3.1, Nat.one_mul]
          omega
        · have := len_sub (X := xp H (kp H p 0)) hv (xp H (kp H p 1))
          rw [hc3.1, Nat.one_mul] at this
          rw [hx, tk_len_cons, tk_len_app]
          omega
      next => exact absurd rfl hr
    next h58 =>
    split at hr
    next h64 =>
      have hpt : pts (lt H p) = 2 := by rw [h64]; rfl
      have k0 := kp_len hw hp (j := 0) (by omega)
      have k1 := kp_len hw hp (j := 1) (by omega)
      have s0 := sp_le (H := H) (p := kp H p 0) (by omega)
      have s1 := sp_le (H := H) (p := kp H p 1) (by omega)
      obtain ⟨hf, hv⟩ := def_fun he hp h64
      have hx := xp2 hp hpt
      have hKd := Kf_def he hw hp h64
      have ex0 : ex (ins (ins (Kf H p) (nm H p)) (pm H p)) (xp H (kp H p 0)) := by rw [← hKd.1]; exact ex_xp he k0
      have ex1 : ex (ins (Kf H p) (nm H p)) (xp H (kp H p 1)) := by rw [← hKd.2]; exact ex_xp he k1
      have hhd : hds (hdA H p).1 = 3 := by show hds (lt H p) = 3; rw [h64]; rfl
      have nou : ∀ q, ¬ (lt H q = 33 ∧ nm H q = nm H p) → ¬ usesH (nm H p) (hdA H q) := by
        intro q hq
        rintro (⟨q1, q2⟩ | ⟨q1, q2, -⟩)
        · rw [q2, (isFun_not hf).2.2.2.1] at q1; cases q1
        · exact hq ⟨q1, q2⟩
      split at hr
      next hc =>
        rw [if_neg ho, if_neg h63, if_neg h58, if_pos h64, if_pos hc, if_neg (by decide), if_neg (by decide), if_neg (by decide), if_neg (by decide)]
        refine ⟨ex_drop ex1 (fun h hm => ?_), norm_seg hn _ _, fun c => ?_, ?_⟩
        · obtain ⟨q, q1, q2, rfl⟩ := mem_seg s1 hm
          exact nou q (cC_zero hc q q1 q2)
        · rw [hx, bc_cons, bc_app]; omega
        · rw [hx, tk_len_cons, tk_len_app]; omega
      next hc =>
      split at hr
      next hc2 =>
        rw [if_neg ho, if_neg h63, if_neg h58, if_pos h64, if_neg hc, if_pos hc2, if_neg (by decide), if_neg (by decide), if_neg (by decide), if_pos rfl]
        obtain ⟨c1, c2, c3, c4, c5⟩ := cC_one hc2.1
        have e : lcl H (nm H p) (kp H p 1) (sp H (kp H p 1)) = cq H p := rfl
        rw [e] at c1 c2 c3 c4 c5
        generalize cq H p = q at c1 c2 c3 c4 c5
        obtain ⟨d1, d2⟩ := call_split hH k1 c1 c2 c3
        have hq : q < H.length := by omega
        have hqk := kp_len hw hq (j := 0) (by rw [c3]; decide)
        have sq := sp_le (H := H) (p := kp H q 0) (by omega)
        have hqs : kp H q 0 + sp H (kp H q 0) = q + sp H q := by
          have z := kp_last hq
          rw [c3] at z
          rw [← z]
          exact (kp_succ (H := H) (p := q) (j := 0)).symm
        have hk0q : kp H q 0 = q + 1 := kp_zero
        have hdq : hdA H q = (33, nm H p, pm H q) := by
          show hdA H q = _
          rw [← c3, ← c4]
          rfl
        have hdp : hdA H p = (64, nm H p, pm H p) := by
          rw [← h64]
          rfl
        rw [d2, hdq] at ex1
        refine ⟨ex_fold hf hv ex1 (ex_xp he hqk) ex0 (fun h hm => ?_) (fun h hm => ?_) (fun h hm => ?_) (fun h hm => ?_), fun h hm => ?_, fun c => ?_, ?_⟩
        · obtain ⟨r, r1, r2, rfl⟩ := mem_seg s0 hm
          exact nou r (cC_zero hc2.2 r r1 r2)
        · obtain ⟨r, r1, r2, rfl⟩ := mem_seg (by omega) hm
          exact nou r (fun z => by have := c5 r (by omega) (by omega) z.1 z.2; omega)
        · obtain ⟨r, r1, r2, rfl⟩ := mem_seg sq hm
          exact nou r (fun z => by have := c5 r (by omega) (by omega) z.1 z.2; omega)
        · obtain ⟨r, r1, r2, rfl⟩ := mem_seg (by omega) hm
          exact nou r (fun z => by have := c5 r (by omega) (by omega) z.1 z.2; have := sp_pos hw hq; omega)
        · rcases List.mem_append.mp hm with hm | hm
          · exact norm_seg hn _ _ h hm
          · rcases List.mem_cons.mp hm with rfl | hm
            · exact ⟨fun z => absurd z (by show ¬ (2 < 2); omega), fun _ => rfl⟩
            · rcases List.mem_append.mp hm with hm | hm
              · exact norm_seg hn _ _ h hm
              · rcases List.mem_append.mp hm with hm | hm
                · exact norm_seg hn _ _ h hm
                · exact norm_seg hn _ _ h hm
        · rw [hx, d2, hdp, hdq]
          simp only [bc_app, bc_cons]
          have b1 : bcnt c (58, pm H p, 0) ≤ bcnt c (64, nm H p, pm H p) := by
            unfold bcnt
            simp
          omega
        · rw [hx, d2, hdp, hdq]
          simp only [tk_len_app, tk_len_cons]
          show _ + (2 + _) < 3 + (_ + (_ + (2 + _)))
          omega
      next => exact absurd rfl hr
    next => exact absurd rfl hr
  exact repl_prog hH hp key.1 key.2.1 key.2.2.1 key.2.2.2
