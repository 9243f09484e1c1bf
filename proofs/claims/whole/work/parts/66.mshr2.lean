/-! The model's puts. -/
def Mde (I : Mem) (w : List Int) : Prop := I 77 34 = (w.length : Int) ∧ Txt I 100 w
def FrP (I J : Mem) : Prop := (∀ id, id ≠ 77 → id ≠ 100 → J id = I id) ∧ ∀ k, k ≠ 34 → J 77 k = I 77 k
theorem FrP.rfl' {I : Mem} : FrP I I := ⟨fun _ _ _ => rfl, fun _ _ => rfl⟩
theorem FrP.trans {I J K : Mem} (h : FrP I J) (h2 : FrP J K) : FrP I K := ⟨fun id a b => (h2.1 id a b).trans (h.1 id a b), fun k a => (h2.2 k a).trans (h.2 k a)⟩
theorem MAna.frP {I J : Mem} {H : List Hd} (h : MAna I H) (e : FrP I J) : MAna J H := h.fr' (fun id hid => e.1 id (by omega) (by omega)) (e.2 20 (by decide))
def mput (I : Mem) (n : Nat) (c : Int) : Mem := upd2 (upd2 I 100 n c) 77 34 ((n + 1 : Nat) : Int)
/-- one letter is put -/
theorem put_Mde {I : Mem} {w : List Int} {c : Int} (h : Mde I w) (hl : w.length < 60) : inb (I 77 34) 60 ∧ Mde (upd2 (upd2 I 100 (I 77 34).toNat c) 77 34 (wrap (I 77 34 + 1))) (w ++ [c]) ∧ FrP I (upd2 (upd2 I 100 (I 77 34).toNat c) 77 34 (wrap (I 77 34 + 1))) := by
  rw [h.1, toNat_c, wrap_succ (by omega)]
  refine ⟨inb_nat hl, ⟨?_, fun j hj => ?_⟩, fun id h1 h2 => by rw [upd2_id h1, upd2_id h2], fun k hk => ?_⟩
  · rw [upd2_at, if_pos ⟨rfl, rfl⟩, List.length_append]; rfl
  · rw [List.length_append, List.length_singleton] at hj
    rw [upd2_id (show 100 ≠ 77 by decide), upd2_at, getD_app]
    by_cases hjw : j = w.length
    · rw [if_pos ⟨rfl, hjw⟩, if_neg (by omega), hjw, Nat.sub_self]; rfl
    · rw [if_neg (fun q => hjw q.2), if_pos (by omega)]
      exact h.2 j (by omega)
  · rw [upd2_at, if_neg (fun q => hk q.2), upd2_id (by decide)]
theorem putsAll_loop {H : List Hd} (hH : prog H) {I0 : Mem} (hT : Txt I0 79 (tk H)) {w : List Int} {a n : Nat} (ha : a + n ≤ (tk H).length) (hl : w.length + n ≤ 60) {Q : Post} (hQ : ∀ I', Mde I' (w ++ ((tk H).drop a).take n) → FrP I0 I' → Q none I') :
    ∀ (d i : Nat) (I : Mem), i + d = n → FrP I0 I → Mde I (w ++ ((tk H).drop a).take i) → R 144 2 [(0, .inr (some 77)), (2, .inl ((a + n : Nat) : Int)), (3, .inl ((a + i : Nat) : Int))] [] I Q := by
  have hx := hH.2.2.2
  intro d
  induction d with
  | zero =>
    intro i I hi hF hB
    have : i = n := by omega
    subst this
    exact t144_2 I _ _ ⟨fun _ => hQ I hB hF, fun q => absurd (Int.le_refl _) q⟩
  | succ d ih =>
    intro i I hi hF hB
    have e79 : I 79 (a + i) = (tk H).getD (a + i) 0 := by rw [hF.1 79 (by decide) (by decide)]; exact hT _ (by omega)
    have hlen : (w ++ ((tk H).drop a).take i).length = w.length + i := by rw [List.length_append, List.length_take, List.length_drop]; omega
    obtain ⟨q1, q2, q3⟩ := put_Mde (c := (tk H).getD (a + i) 0) hB (by omega)
    refine t144_2 I _ _ ⟨fun q => absurd q (by omega), fun _ => ⟨inb_nat (by omega), q1, ?_⟩⟩
    dsimp only
    rw [toNat_c, e79, wrap_succ (n := a + i) (by omega)]
    rw [List.append_assoc, ← take_succ_getD _ _ _ (by omega)] at q2
    exact ih (i + 1) _ (by omega) (hF.trans q3) q2
theorem R_putsAll {H : List Hd} (hH : prog H) {I : Mem} (hA : MAna I H) {w : List Int} {a b : Nat} (hab : a ≤ b) (hb : b ≤ (tk H).length) (hB : Mde I w) (hl : w.length + (b - a) ≤ 60) {Q : Post} (hQ : ∀ I', Mde I' (w ++ ((tk H).drop a).take (b - a)) → FrP I I' → Q none I') :
    R 144 0 [(0, .inr (some 77)), (1, .inl (a : Int)), (2, .inl (b : Int))] [] I Q := by
  refine t144_0 I _ _ ?_
  have := putsAll_loop hH hA.1.1.1.1 (w := w) (a := a) (n := b - a) (by omega) hl hQ (b - a) 0 I (by omega) FrP.rfl' (by simpa using hB)
  rw [show a + (b - a) = b by omega, Nat.add_zero] at this
  exact this
theorem R_putsTo {H : List Hd} (hH : prog H) {I : Mem} (hA : MAna I H) {w : List Int} {a b : Nat} (hab : a ≤ b) (hB : Mde I w) (hl : w.length + (tk (seg H a (b - a))).length ≤ 60) {Q : Post} (hQ : ∀ I', Mde I' (w ++ tk (seg H a (b - a))) → FrP I I' → Q none I') :
    R 144 0 [(0, .inr (some 77)), (1, .inl (pos H a : Int)), (2, .inl (pos H b : Int))] [] I Q := by
  have e := pos_seg (H := H) (a := a) (n := b - a)
  have e2 := tk_seg (H := H) (a := a) (n := b - a)
  rw [show a + (b - a) = b by omega] at e e2
  refine R_putsAll hH hA (pos_mono hab) (pos_le H _) hB (by omega) (fun I' h1 h2 => hQ I' ?_ h2)
  rw [e2] at h1
  exact h1
theorem R_putsPart {H : List Hd} (hH : prog H) {I : Mem} (hA : MAna I H) {w : List Int} {q : Nat} (hq : q < H.length) (hB : Mde I w) (hl : w.length + (tk (xp H q)).length ≤ 60) {Q : Post} (hQ : ∀ I', Mde I' (w ++ tk (xp H q)) → FrP I I' → Q none I') :
    R 145 0 [(0, .inr (some 77)), (1, .inl (q : Int))] [] I Q := by
  have h60 := prog_60 hH
  obtain ⟨e1, e2, -⟩ := hA.ends hq
  refine t145_0 I _ ⟨inb_nat (by omega), inb_nat (by omega), ?_⟩
  rw [toNat_c, e1, e2]
  have es : q + sp H q - q = sp H q := by omega
  refine R_putsTo hH hA (a := q) (b := q + sp H q) (by omega) hB (by rw [es]; exact hl) (fun I' h1 h2 => ⟨rfl, hQ I' ?_ h2⟩)
  rw [es] at h1
  exact h1
/-- a text with another in place of a letter -/
def tsub (v : Int) (X l : List Int) : List Int := l.flatMap (fun c => if c = v then X else [c])
theorem tsub_app (v : Int) (X A B : List Int) : tsub v X (A ++ B) = tsub v X A ++ tsub v X B := by simp [tsub]
theorem tsub_one (v : Int) (X : List Int) (c : Int) : tsub v X [c] = if c = v then X else [c] := by simp [tsub]
theorem tsub_toks {v : Int} {X : List Hd} {h : Hd} (hv : isVal v = true) (h1 : 1 < hds h.1 → h.2.1 ≠ v) (h2 : 2 < hds h.1 → h.2.2 ≠ v) : tsub v (tk X) (toks h) = tk (sub v X [h]) := by
  rw [sub_cons]
  show _ = tk ((if h.1 = v then X else [h]) ++ [])
  rw [List.append_nil]
  by_cases e : h.1 = v
  · rw [if_pos e]
    have hz : hds h.1 = 1 := (leaf_pts (Or.inr (Or.inl (by rw [e]; exact hv)))).2.1
    unfold toks
    rw [if_pos hz, tsub_one, if_pos e]
  · rw [if_neg e, tk_cons]
    show _ = toks h ++ []
    rw [List.append_nil]
    unfold toks
    rcases hds_cases h.1 with z | z | z
    · rw [if_pos z, tsub_one, if_neg e]
    · rw [if_neg (by omega), if_pos z, show [h.1, h.2.1] = [h.1] ++ [h.2.1] from rfl, tsub_app, tsub_one, tsub_one, if_neg e, if_neg (h1 (by omega))]
    · rw [if_neg (by omega), if_neg (by omega), show [h.1, h.2.1, h.2.2] = [h.1] ++ ([h.2.1] ++ [h.2.2]) from rfl, tsub_app, tsub_app, tsub_one, tsub_one, tsub_one, if_neg e, if_neg (h1 (by omega)), if_neg (h2 (by omega))]
theorem tsub_tk {v : Int} {X : List Hd} (hv : isVal v = true) : ∀ Y : List Hd, (∀ h ∈ Y, (1 < hds h.1 → h.2.1 ≠ v) ∧ (2 < hds h.1 → h.2.2 ≠ v)) → tsub v (tk X) (tk Y) = tk (sub v X Y) := by
  intro Y
  induction Y with
  | nil => intro _; rfl
  | cons h t ih =>
    intro hh
    have := hh h List.mem_cons_self
    rw [tk_cons, tsub_app, tsub_toks hv this.1 this.2, ih (fun q hq => hh q (List.mem_cons_of_mem _ hq)), ← tk_app, ← sub_app]
    rfl
theorem R_putsWith {H : List Hd} (hH : prog H) {I : Mem} (hA : MAna I H) {w : List Int} {a b : Nat} {v : Int} (ha : a < H.length) (hb : b < H.length) (hB : Mde I w) (hl : w.length + (tsub v (tk (xp H b)) (tk (xp H a))).length ≤ 60) {Q : Post}
    (hQ : ∀ I', Mde I' (w ++ tsub v (tk (xp H b)) (tk (xp H a))) → FrP I I' → Q none I') : R 146 0 [(0, .inr (some 77)), (1, .inl (a : Int)), (2, .inl v), (3, .inl (b : Int))] [] I Q := by
  have h60 := prog_60 hH
  have hx := hH.2.2.2
  obtain ⟨e1, e2, -⟩ := hA.ends ha
  have hps := pos_seg (H := H) (a := a) (n := sp H a)
  have hpl := pos_le H (a + sp H a)
  have etk : ((tk H).drop (pos H a)).take (pos H (a + sp H a) - pos H a) = tk (xp H a) := tk_seg (H := H) (a := a) (n := sp H a)
  have exx : (tk (xp H a)).length = (tk (seg H a (sp H a))).length := rfl
  refine t146_0 I _ _ _ ⟨inb_nat (by omega), ?_⟩
  rw [toNat_c, e1]
  have loop : ∀ (d i : Nat) (J : Mem), i + d = (tk (xp H a)).length → FrP I J → Mde J (w ++ tsub v (tk (xp H b)) (((tk H).drop (pos H a)).take i)) →
      R 146 8 [(0, .inr (some 77)), (1, .inl (a : Int)), (2, .inl v), (3, .inl (b : Int)), (4, .inl ((pos H a + i : Nat) : Int))] [] J Q := by
    intro d
    induction d with
    | zero =>
      intro i J hi hF hJ
      have e90 : J 90 a = (pos H (a + sp H a) : Int) := by rw [hF.1 90 (by decide) (by decide)]; exact e2
      have : pos H (a + sp H a) - pos H a = i := by omega
      rw [this] at etk
      refine t146_8 J _ _ _ _ ⟨inb_nat (by omega), fun _ => hQ J (by rw [← etk]; exact hJ) hF, fun z => absurd (by rw [toNat_c, e90]; omega) z⟩
    | succ d ih =>
      intro i J hi hF hJ
      have hAJ := hA.frP hF
      have e90 : J 90 a = (pos H (a + sp H a) : Int) := by rw [hF.1 90 (by decide) (by decide)]; exact e2
      have hlt : pos H a + i < (tk H).length := by omega
      have ec : J 79 (pos H a + i) = (tk H).getD (pos H a + i) 0 := hAJ.1.1.1.1 _ hlt
      have step := take_succ_getD (tk H) (pos H a) i hlt
      have hpre : (tsub v (tk (xp H b)) (((tk H).drop (pos H a)).take (i + 1))).length ≤ (tsub v (tk (xp H b)) (tk (xp H a))).length := by
        have e : ((tk H).drop (pos H a)).take ((i + 1) + d) = ((tk H).drop (pos H a)).take (i + 1) ++ (((tk H).drop (pos H a)).drop (i + 1)).take d := List.take_add
        rw [← etk, show pos H (a + sp H a) - pos H a = (i + 1) + d by omega, e, tsub_app, List.length_append]
        omega
      rw [step, tsub_app, tsub_one, List.length_append] at hpre
      have next : ∀ J' : Mem, FrP I J' → Mde J' ((w ++ tsub v (tk (xp H b)) (((tk H).drop (pos H a)).take i)) ++ (if (tk H).getD (pos H a + i) 0 = v then tk (xp H b) else [(tk H).getD (pos H a + i) 0])) →
          R 146 8 [(0, .inr (some 77)), (1, .inl (a : Int)), (2, .inl v), (3, .inl (b : Int)), (4, .inl (wrap (((pos H a + i : Nat) : Int) + 1)))] [] J' Q := by
        intro J' hF' hJ'
        rw [wrap_succ (by omega)]
        refine ih (i + 1) J' (by omega) hF' ?_
        rw [step, tsub_app, tsub_one, ← List.append_assoc]
        exact hJ'
      refine t146_8 J _ _ _ _ ⟨inb_nat (by omega), fun z => absurd z (by rw [toNat_c, e90]; omega), fun _ => ⟨inb_nat (by omega), fun z => ?_, fun z => ?_⟩⟩
      · rw [toNat_c, ec] at z
        rw [if_neg z] at next hpre
        obtain ⟨q1, q2, q3⟩ := put_Mde (c := (tk H).getD (pos H a + i) 0) hJ (by rw [List.length_append]; simp only [List.length_singleton] at hpre; omega)
        refine ⟨inb_nat (by omega), q1, ?_⟩
        dsimp only
        rw [toNat_c, ec]
        exact next _ (hF.trans q3) q2
      · rw [toNat_c, ec] at z
        have z : (tk H).getD (pos H a + i) 0 = v := by simpa using z
        rw [if_pos z] at next hpre
        exact R_putsPart hH hAJ hb hJ (by rw [List.length_append]; omega) (fun J' h1 h2 => ⟨rfl, next J' (hF.trans h2) h1⟩)
  have := loop (tk (xp H a)).length 0 I (by omega) FrP.rfl' (by simpa [tsub] using hB)
  exact this
theorem R_callIn {H : List Hd} (hH : prog H) {I : Mem} (hA : MAna I H) {a q : Nat} {F : Int} (ha : a < H.length) (c1 : a ≤ q) (c2 : q < a + sp H a) (c3 : lt H q = 33) (c4 : nm H q = F) (c5 : ∀ r, a ≤ r → r < a + sp H a → lt H r = 33 → nm H r = F → r = q) {Q : Post}
    (hQ : Q (some (.inl (q : Int))) I) : R 147 0 [(0, .inr (some 77)), (1, .inl (a : Int)), (2, .inl F)] [] I Q := by
  have h60 := prog_60 hH
  have hs := sp_le (H := H) (p := a) (by omega)
  obtain ⟨-, -, e3⟩ := hA.ends ha
  have ew : wrap ((a : Int) + I 91 a) = ((a + sp H a : Nat) : Int) := by rw [e3, wrap_of (by omega) (by omega)]; omega
  refine t147_0 I _ _ ?_
  have loop : ∀ (d r : Nat), r + d = a + sp H a → a ≤ r → R 147 6 [(0, .inr (some 77)), (1, .inl (a : Int)), (2, .inl F), (3, .inl (if q < r then (q : Int) else -9)), (4, .inl (r : Int))] [] I Q := by
    intro d
    induction d with
    | zero =>
      intro r hr har
      rw [if_pos (by omega)]
      refine t147_6 I _ _ _ _ ⟨inb_nat (by omega), fun _ => hQ, fun z => absurd (by rw [toNat_c, ew]; omega) z⟩
    | succ d ih =>
      intro r hr har
      have hr2 : r < H.length := by omega
      obtain ⟨l1, l2⟩ := hA.let_ hH hr2
      have next : r ≠ q → R 147 6 [(0, .inr (some 77)), (1, .inl (a : Int)), (2, .inl F), (3, .inl (if q < r then (q : Int) else -9)), (4, .inl (wrap ((r : Int) + 1)))] [] I Q := by
        intro hne
        rw [wrap_succ (by omega)]
        have := ih (r + 1) (by omega) (by omega)
        have e : (q < r + 1) = (q < r) := by apply propext; omega
        simp only [e] at this
        exact this
      refine t147_6 I _ _ _ _ ⟨inb_nat (by omega), fun z => absurd z (by rw [toNat_c, ew]; omega), fun _ => ⟨l1, ?_⟩⟩
      rw [l2, b2i_0]
      refine ⟨fun z => next (fun e => ?_), fun z => ?_⟩
      · rw [e] at z; simp [c3] at z
      · have z : lt H r = 33 := by simpa using z
        obtain ⟨f1, f2⟩ := hA.fun_ hH hr2 (hds_kind.1.mpr (Or.inr (Or.inr z)))
        rw [f2]
        refine ⟨f1, fun z2 => next (fun e => ?_), fun z2 => ?_⟩
        · rw [e] at z2; exact z2 c4
        · have := c5 r har (by omega) z (by simpa using z2)
          subst this
          rw [wrap_succ (by omega)]
          have := ih (r + 1) (by omega) (by omega)
          rw [if_pos (by omega)] at this
          exact this
  have := loop (sp H a) a rfl (Nat.le_refl _)
  rw [if_neg (by omega)] at this
  exact this
theorem R_putsFolded {H : List Hd} (hH : prog H) {I : Mem} (hS : MAna I H) {w : List Int} {p : Nat} (hp : p < H.length) (ho : lt H p = 64) (hc : cS H p = 1) (hB : Mde I w) {B : List Hd}
    (hBe : B = seg H (kp H p 1) (cq H p - kp H p 1) ++ ((58, pm H p, 0) :: (xp H (kp H (cq H p) 0) ++ (xp H (kp H p 0) ++ seg H (cq H p + sp H (cq H p)) (kp H p 1 + sp H (kp H p 1) - (cq H p + sp H (cq H p)))))))
    (hl : w.length + (tk B).length ≤ 60) {Q : Post}
    (hQ : ∀ I', Mde I' (w ++ tk B) → FrP I I' → Q none I') : R 148 0 [(0, .inr (some 77)), (1, .inl (p : Int))] [] I Q := by
  have hw := prog_wfa hH
  have h60 := prog_60 hH
  have hx := hH.2.2.2
  have hpt : pts (lt H p) = 2 := by rw [ho]; rfl
  have hk0 := kp_len hw hp (j := 0) (by omega)
  have hk1 := kp_len hw hp (j := 1) (by omega)
  have hs1 := sp_le (H := H) (p := kp H p 1) (by omega)
  obtain ⟨c1, c2, c3, c4, c5⟩ := cC_one hc
  have e : lcl H (nm H p) (kp H p 1) (sp H (kp H p 1)) = cq H p := rfl
  rw [e] at c1 c2 c3 c4 c5
  generalize cq H p = q at c1 c2 c3 c4 c5 hBe
  have hq : q < H.length := by omega
  have hqk := kp_len hw hq (j := 0) (by rw [c3]; decide)
  have hqn := nest hw hk1 c1 c2
  have tkB : tk B = tk (seg H (kp H p 1) (q - kp H p 1)) ++ ([58] ++ ([pm H p] ++ (tk (xp H (kp H q 0)) ++ (tk (xp H (kp H p 0)) ++ tk (seg H (q + sp H q) (kp H p 1 + sp H (kp H p 1) - (q + sp H q))))))) := by
    rw [hBe, tk_app, tk_cons, tk_app, tk_app]
    rfl
  have lB : (tk B).length = (tk (seg H (kp H p 1) (q - kp H p 1))).length + (1 + (1 + ((tk (xp H (kp H q 0))).length + ((tk (xp H (kp H p 0))).length + (tk (seg H (q + sp H q) (kp H p 1 + sp H (kp H p 1) - (q + sp H q)))).length)))) := by
    rw [tkB]
    simp only [List.length_append, List.length_singleton]
  have k1 : mkidP (p : Int) 1 ∧ mkid I (p : Int) 1 = (kp H p 1 : Int) := hS.kid hH (j := 1) hp (by omega)
  obtain ⟨f1, f2⟩ := hS.fun_ hH hp (hds_kind.1.mpr (Or.inl ho))
  refine t148_0 I _ ⟨k1.1, f1, ?_⟩
  rw [k1.2, f2]
  refine R_callIn hH hS hk1 c1 c2 c3 c4 c5 ⟨_, rfl, inb_nat (by omega), inb_nat (by omega), ?_⟩
  rw [toNat_c, toNat_c, (hS.ends hk1).1, (hS.ends hq).1]
  refine R_putsTo hH hS (w := w) c1 hB (by omega) (fun I1 b1 g1 => ⟨rfl, ?_⟩)
  have S1 := hS.frP g1
  obtain ⟨q1, q2, q3⟩ := put_Mde (c := 58) b1 (by rw [List.length_append]; omega)
  refine ⟨q1, ?_⟩
  dsimp only
  generalize upd2 (upd2 I1 100 (I1 77 34).toNat 58) 77 34 (wrap (I1 77 34 + 1)) = I2 at q2 q3 ⊢
  have S2 := S1.frP q3
  have hpa := pos_add_lt hp
  have h3 : hds (lt H p) = 3 := hds64 ho
  have e2 : wrap (I2 89 p + 2) = ((pos H p + 2 : Nat) : Int) := by rw [(S2.ends hp).1, wrap_of (by omega) (by omega)]; omega
  have e79 : I2 79 (pos H p + 2) = pm H p := by rw [S2.1.1.1.1 _ (by omega), tk_at2 hp (by omega)]
  rw [toNat_c, e2, toNat_c, e79]
  obtain ⟨r1, r2, r3⟩ := put_Mde (c := pm H p) q2 (by simp only [List.length_append, List.length_singleton]; omega)
  refine ⟨inb_nat (by omega), inb_nat (by omega), r1, ?_⟩
  generalize upd2 (upd2 I2 100 (I2 77 34).toNat (pm H p)) 77 34 (wrap (I2 77 34 + 1)) = I3 at r2 r3 ⊢
  have S3 := S2.frP r3
  have kq : mkidP (q : Int) 0 ∧ mkid I3 (q : Int) 0 = (kp H q 0 : Int) := S3.kid hH (j := 0) hq (by rw [c3]; decide)
  rw [kq.2]
  refine ⟨kq.1, R_putsPart hH S3 hqk r2 (by simp only [List.length_append, List.length_singleton]; omega) (fun I4 b4 g4 => ⟨rfl, ?_⟩)⟩
  have S4 := S3.frP g4
  have k0 : mkidP (p : Int) 0 ∧ mkid I4 (p : Int) 0 = (kp H p 0 : Int) := S4.kid hH (j := 0) hp (by omega)
  rw [k0.2]
  refine ⟨k0.1, R_putsPart hH S4 hk0 b4 (by simp only [List.length_append, List.length_singleton]; omega) (fun I5 b5 g5 => ⟨rfl, inb_nat (by omega), inb_nat (by omega), ?_⟩)⟩
  have S5 := S4.frP g5
  rw [(S5.ends hq).2.1, (S5.ends hk1).2.1]
  refine R_putsTo hH S5 hqn b5 (by simp only [List.length_append, List.length_singleton]; omega) (fun I6 b6 g6 => ⟨rfl, hQ I6 ?_ (g1.trans (q3.trans (r3.trans (g4.trans (g5.trans g6)))))⟩)
  rw [tkB]
  simpa [List.append_assoc] using b6
