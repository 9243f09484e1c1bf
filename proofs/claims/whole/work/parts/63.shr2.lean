/-! Shrinker: apply, simplify. -/
theorem getD_app (w : List Int) (l : List Int) (j : Nat) : (w ++ l).getD j 0 = if j < w.length then w.getD j 0 else l.getD (j - w.length) 0 := by
  rw [List.getD_eq_getElem?_getD]
  split
  next h => rw [List.getElem?_append_left h, List.getD_eq_getElem?_getD]
  next h => rw [List.getElem?_append_right (by omega), List.getD_eq_getElem?_getD]
/-- what is built so far -/
def Blt (I : Mem) (w : List Int) : Prop := I 37 6 = (w.length : Int) ∧ Txt I 39 w
def FrB (I I' : Mem) : Prop := (∀ id, id ≠ 37 → id ≠ 39 → I' id = I id) ∧ ∀ k, k ≠ 6 → I' 37 k = I 37 k
theorem FrB.trans {I J K : Mem} (h : FrB I J) (h2 : FrB J K) : FrB I K := ⟨fun id a b => (h2.1 id a b).trans (h.1 id a b), fun k a => (h2.2 k a).trans (h.2 k a)⟩
theorem FrB.rfl' {I : Mem} : FrB I I := ⟨fun _ _ _ => rfl, fun _ _ => rfl⟩
theorem SOK.frB {I I' : Mem} {H : List Hd} (h : SOK I H) (e : FrB I I') : SOK I' H := by
  refine ⟨by rw [e.2 1 (by decide)]; exact h.1, fun j hj => by rw [e.1 38 (by decide) (by decide)]; exact h.2.1 j hj, h.2.2.fr (fun k hk => e.1 (40 + k) (by omega) (by omega))⟩
theorem R_copySign {I : Mem} {w : List Int} {c : Int} {Q : Post} (h : Blt I w) (hl : w.length < 60) (hQ : ∀ I', Blt I' (w ++ [c]) → FrB I I' → Q none I') : R 66 0 [(0, .inr (some 37)), (1, .inl c)] [] I Q := by
  refine t66_0 I _ ⟨fun q => by have := h.1; omega, fun _ => ⟨fun q => by have := h.1; omega, fun _ => ?_⟩⟩
  rw [h.1]
  refine ⟨inb_nat hl, ?_⟩
  dsimp only
  rw [toNat_c, upd2_id (show 37 ≠ 39 by decide), h.1, wrap_succ (by omega)]
  refine hQ _ ⟨?_, fun j hj => ?_⟩ ⟨fun id h1 h2 => by rw [upd2_id h1, upd2_id h2], fun k hk => ?_⟩
  · rw [upd2_at, if_pos ⟨rfl, rfl⟩, List.length_append]; rfl
  · rw [List.length_append, List.length_singleton] at hj
    rw [upd2_id (show 39 ≠ 37 by decide), upd2_at, getD_app]
    by_cases hjw : j = w.length
    · rw [if_pos ⟨rfl, hjw⟩, if_neg (by omega), hjw, Nat.sub_self]; rfl
    · rw [if_neg (fun q => hjw q.2), if_pos (by omega)]
      exact h.2 j (by omega)
  · rw [upd2_at, if_neg (fun q => hk q.2), upd2_id (by decide)]
theorem take_succ_getD (l : List Int) (a i : Nat) (h : a + i < l.length) : ((l.drop a).take (i + 1)) = (l.drop a).take i ++ [l.getD (a + i) 0] := by
  rw [List.take_succ, List.getElem?_drop, List.getElem?_eq_getElem h, List.getD_eq_getElem?_getD, List.getElem?_eq_getElem h]
  rfl
theorem range_loop {H : List Hd} (hH : prog H) {I0 : Mem} (hS : SOK I0 H) {w : List Int} {a n : Nat} (ha : a + n ≤ (tk H).length) (hl : w.length + n ≤ 60) {Q : Post} (hQ : ∀ I', Blt I' (w ++ ((tk H).drop a).take n) → FrB I0 I' → Q none I') :
    ∀ (d i : Nat) (I : Mem), i + d = n → FrB I0 I → Blt I (w ++ ((tk H).drop a).take i) → R 65 2 [(0, .inr (some 37)), (2, .inl ((a + n : Nat) : Int)), (3, .inl ((a + i : Nat) : Int))] [] I Q := by
  have hx := hH.2.2.2
  intro d
  induction d with
  | zero =>
    intro i I hi hF hB
    have : i = n := by omega
    subst this
    exact t65_2 I _ _ ⟨fun _ => hQ I hB hF, fun q => absurd (Int.le_refl _) q⟩
  | succ d ih =>
    intro i I hi hF hB
    refine t65_2 I _ _ ⟨fun q => absurd q (by omega), fun _ => ?_⟩
    have hS' := hS.frB hF
    have e38 : rd I 38 ((a + i : Nat) : Int) = (tk H).getD (a + i) 0 := by rw [rd_nat (by rw [sz38]; omega)]; exact hS'.2.1 _ (by omega)
    rw [e38]
    have hlen : (w ++ ((tk H).drop a).take i).length = w.length + i := by rw [List.length_append, List.length_take, List.length_drop]; omega
    refine R_copySign hB (by omega) (fun I' hB' hF' => ⟨rfl, ?_⟩)
    rw [wrap_succ (by omega)]
    rw [List.append_assoc, ← take_succ_getD _ _ _ (by omega)] at hB'
    exact ih (i + 1) I' (by omega) (hF.trans hF') hB'
theorem R_copyRange {H : List Hd} (hH : prog H) {I : Mem} (hS : SOK I H) {w : List Int} {a b : Nat} (hab : a ≤ b) (hb : b ≤ (tk H).length) (hB : Blt I w) (hl : w.length + (b - a) ≤ 60) {Q : Post} (hQ : ∀ I', Blt I' (w ++ ((tk H).drop a).take (b - a)) → FrB I I' → Q none I') :
    R 65 0 [(0, .inr (some 37)), (1, .inl (a : Int)), (2, .inl (b : Int))] [] I Q := by
  refine t65_0 I _ _ ?_
  have := range_loop hH hS (w := w) (a := a) (n := b - a) (by omega) hl hQ (b - a) 0 I (by omega) FrB.rfl' (by simpa using hB)
  rw [show a + (b - a) = b by omega, Nat.add_zero] at this
  exact this
/-- a stretch of heads -/
theorem R_copySeg {H : List Hd} (hH : prog H) {I : Mem} (hS : SOK I H) {w : List Int} {a n : Nat} (hB : Blt I w) (hl : w.length + (tk (seg H a n)).length ≤ 60) {Q : Post} (hQ : ∀ I', Blt I' (w ++ tk (seg H a n)) → FrB I I' → Q none I') :
    R 65 0 [(0, .inr (some 37)), (1, .inl (pos H a : Int)), (2, .inl (pos H (a + n) : Int))] [] I Q := by
  have e := pos_seg (H := H) (a := a) (n := n)
  refine R_copyRange hH hS (by omega) (pos_le H _) hB (by omega) (fun I' h1 h2 => hQ I' ?_ h2)
  rw [tk_seg] at h1
  exact h1
theorem R_copyTo {H : List Hd} (hH : prog H) {I : Mem} (hS : SOK I H) {w : List Int} {a b : Nat} (hab : a ≤ b) (hB : Blt I w) (hl : w.length + (tk (seg H a (b - a))).length ≤ 60) {Q : Post} (hQ : ∀ I', Blt I' (w ++ tk (seg H a (b - a))) → FrB I I' → Q none I') :
    R 65 0 [(0, .inr (some 37)), (1, .inl (pos H a : Int)), (2, .inl (pos H b : Int))] [] I Q := by
  have := R_copySeg hH hS (a := a) (n := b - a) hB hl hQ
  rw [show a + (b - a) = b by omega] at this
  exact this
theorem R_copyX {H : List Hd} (hH : prog H) {I : Mem} (hS : SOK I H) {w : List Int} {q : Nat} (hq : q < H.length) (hB : Blt I w) (hl : w.length + (tk (xp H q)).length ≤ 60) {Q : Post} (hQ : ∀ I', Blt I' (w ++ tk (xp H q)) → FrB I I' → Q none I') :
    R 64 0 [(0, .inr (some 37)), (1, .inl (q : Int))] [] I Q := by
  refine t64_0 I _ ?_
  rw [(hS.row hH hq).2.2.2.1, (hS.row hH hq).2.2.2.2.1]
  exact R_copySeg hH hS hB hl (fun I' h1 h2 => ⟨rfl, hQ I' h1 h2⟩)
theorem sub_len_le {v : Int} {X : List Hd} (A B : List Hd) : (tk (sub v X A)).length ≤ (tk (sub v X (A ++ B))).length := by rw [sub_app, tk_len_app]; omega
theorem R_copyReplaced {H : List Hd} (hH : prog H) {I : Mem} (hS : SOK I H) {w : List Int} {p : Nat} (hp : p < H.length) (ho : lt H p = 58) (h3 : I 37 3 = (p : Int)) (hB : Blt I w) (hl : w.length + (tk (sub (nm H p) (xp H (kp H p 0)) (xp H (kp H p 1)))).length ≤ 60) {Q : Post}
    (hQ : ∀ I', Blt I' (w ++ tk (sub (nm H p) (xp H (kp H p 0)) (xp H (kp H p 1)))) → FrB I I' → Q none I') : R 61 0 [(0, .inr (some 37))] [] I Q := by
  have hw := prog_wfa hH
  have h60 := prog_60 hH
  have hx := hH.2.2.2
  have hpt : pts (lt H p) = 2 := by rw [ho]; rfl
  have hk0 := kp_len hw hp (j := 0) (by omega)
  have hk1 := kp_len hw hp (j := 1) (by omega)
  have hs1 := sp_le (H := H) (p := kp H p 1) (by omega)
  have hv := bind_val hH.1 hp ho
  refine t61_0 I ?_
  rw [h3, SOK.k1 hH hS hp (by omega), (hS.row hH hp).2.1, (hS.row hH hk1).2.2.2.2.2, wrap_of (x := (kp H p 1 : Int) + (sp H (kp H p 1) : Int)) (by omega) (by omega), show (kp H p 1 : Int) + (sp H (kp H p 1) : Int) = ((kp H p 1 + sp H (kp H p 1) : Nat) : Int) by omega]
  have loop : ∀ (d i : Nat) (J : Mem), i + d = sp H (kp H p 1) → FrB I J → Blt J (w ++ tk (sub (nm H p) (xp H (kp H p 0)) (seg H (kp H p 1) i))) →
      R 61 44 [(0, .inr (some 37)), (2, .inl (nm H p)), (3, .inl ((kp H p 1 + sp H (kp H p 1) : Nat) : Int)), (4, .inl ((kp H p 1 + i : Nat) : Int))] [] J Q := by
    intro d
    induction d with
    | zero =>
      intro i J hi hF hJ
      have : i = sp H (kp H p 1) := by omega
      subst this
      exact t61_44 J _ _ _ ⟨fun _ => hQ J hJ hF, fun q => absurd (Int.le_refl _) q⟩
    | succ d ih =>
      intro i J hi hF hJ
      have hSJ := hS.frB hF
      have hq : kp H p 1 + i < H.length := by omega
      have eseg := seg_succ (H := H) (a := kp H p 1) (n := i) hq
      have hfull : (tk (sub (nm H p) (xp H (kp H p 0)) (seg H (kp H p 1) (i + 1)))).length ≤ (tk (sub (nm H p) (xp H (kp H p 0)) (xp H (kp H p 1)))).length := by
        have e : xp H (kp H p 1) = seg H (kp H p 1) (i + 1) ++ seg H (kp H p 1 + (i + 1)) d := by
          rw [← seg_add]
          show seg H (kp H p 1) (sp H (kp H p 1)) = _
          rw [← hi]
          congr 1
          omega
        rw [e]
        exact sub_len_le _ _
      rw [eseg, sub_app] at hfull
      rw [tk_len_app] at hfull
      have e1 : sub (nm H p) (xp H (kp H p 0)) [hdA H (kp H p 1 + i)] = if lt H (kp H p 1 + i) = nm H p then xp H (kp H p 0) else [hdA H (kp H p 1 + i)] := by
        rw [sub_cons]
        show (if lt H (kp H p 1 + i) = nm H p then xp H (kp H p 0) else [hdA H (kp H p 1 + i)]) ++ [] = _
        rw [List.append_nil]
      have next : ∀ (J' : Mem), FrB I J' → Blt J' ((w ++ tk (sub (nm H p) (xp H (kp H p 0)) (seg H (kp H p 1) i))) ++ tk (sub (nm H p) (xp H (kp H p 0)) [hdA H (kp H p 1 + i)])) →
          R 61 44 [(0, .inr (some 37)), (2, .inl (nm H p)), (3, .inl ((kp H p 1 + sp H (kp H p 1) : Nat) : Int)), (4, .inl (wrap (((kp H p 1 + i : Nat) : Int) + 1)))] [] J' Q := by
        intro J' hF' hJ'
        rw [wrap_succ (by omega)]
        refine ih (i + 1) J' (by omega) hF' ?_
        rw [eseg, sub_app, tk_app, ← List.append_assoc]
        exact hJ'
      refine t61_44 J _ _ _ ⟨fun q => absurd q (by omega), fun _ => ⟨fun c => ?_, fun c => ?_⟩⟩
      · rw [(hSJ.row hH hq).1] at c
        rw [if_neg c] at e1
        rw [e1] at next hfull
        rw [(hSJ.row hH hq).1, (hSJ.row hH hq).2.2.2.1]
        have ep : wrap ((pos H (kp H p 1 + i) : Int) + ((hds (lt H (kp H p 1 + i)) : Nat) : Int)) = (pos H (kp H p 1 + i + 1) : Int) := by
          have z := pos_succ hq
          have z2 := pos_le H (kp H p 1 + i + 1)
          rw [wrap_of (by omega) (by omega)]
          omega
        rw [ep]
        have eone : seg H (kp H p 1 + i) 1 = [hdA H (kp H p 1 + i)] := seg_one hq
        refine R_copySeg hH hSJ (n := 1) hJ ?_ (fun J' h1 h2 => ⟨rfl, next J' (hF.trans h2) ?_⟩)
        · rw [eone, List.length_append]; omega
        · rw [eone] at h1; exact h1
      · have c : lt H (kp H p 1 + i) = nm H p := by rw [(hSJ.row hH hq).1] at c; simpa using c
        rw [if_pos c] at e1
        rw [e1] at next hfull
        rw [hF.2 3 (by decide), h3, SOK.k0 hH hp]
        exact R_copyX hH hSJ hk0 hJ (by rw [List.length_append]; omega) (fun J' h1 h2 => ⟨rfl, next J' (hF.trans h2) h1⟩)
  have := loop (sp H (kp H p 1)) 0 I (by omega) FrB.rfl' (by rw [seg_zero]; simpa [sub, tk] using hB)
  rw [Nat.add_zero] at this
  exact this
theorem R_onlyCall {H : List Hd} (hH : prog H) {I : Mem} (hS : SOK I H) {a q : Nat} {F : Int} (ha : a < H.length) (c1 : a ≤ q) (c2 : q < a + sp H a) (c3 : lt H q = 33) (c4 : nm H q = F) (c5 : ∀ r, a ≤ r → r < a + sp H a → lt H r = 33 → nm H r = F → r = q) {Q : Post}
    (hQ : Q (some (.inl (q : Int))) I) : R 63 0 [(0, .inr (some 37)), (1, .inl (a : Int)), (2, .inl F)] [] I Q := by
  have h60 := prog_60 hH
  have hs := sp_le (H := H) (p := a) (by omega)
  refine t63_0 I _ _ ?_
  rw [(hS.row hH ha).2.2.2.2.2, wrap_of (by omega) (by omega), show (a : Int) + (sp H a : Int) = ((a + sp H a : Nat) : Int) by omega]
  have loop : ∀ (d r : Nat), r + d = q → a ≤ r → R 63 17 [(0, .inr (some 37)), (1, .inl (a : Int)), (2, .inl F), (3, .inl ((a + sp H a : Nat) : Int)), (4, .inl (r : Int))] [] I Q := by
    intro d
    induction d with
    | zero =>
      intro r hr har
      have : r = q := by omega
      subst this
      have hr2 : r < H.length := by omega
      refine t63_17 I _ _ _ _ ⟨fun z => absurd z (by omega), fun _ => ⟨fun z => ?_, fun _ => ⟨fun z => ?_, fun _ => hQ⟩⟩⟩
      · rw [(hS.row hH hr2).1] at z; exact absurd c3 z
      · rw [(hS.row hH hr2).2.1] at z; exact absurd c4 z
    | succ d ih =>
      intro r hr har
      have hr2 : r < H.length := by omega
      have next : R 63 17 [(0, .inr (some 37)), (1, .inl (a : Int)), (2, .inl F), (3, .inl ((a + sp H a : Nat) : Int)), (4, .inl (wrap ((r : Int) + 1)))] [] I Q := by
        rw [wrap_succ (by omega)]
        exact ih (r + 1) (by omega) (by omega)
      refine t63_17 I _ _ _ _ ⟨fun z => absurd z (by omega), fun _ => ⟨fun _ => next, fun z => ⟨fun _ => next, fun z2 => ?_⟩⟩⟩
      rw [(hS.row hH hr2).1] at z
      rw [(hS.row hH hr2).2.1] at z2
      have := c5 r har (by omega) (by simpa using z) (by simpa using z2)
      omega
  exact loop (q - a) a (by omega) (Nat.le_refl _)
theorem R_copyInlined {H : List Hd} (hH : prog H) {I : Mem} (hS : SOK I H) {w : List Int} {p : Nat} (hp : p < H.length) (ho : lt H p = 64) (h3 : I 37 3 = (p : Int)) (hc : cS H p = 1) (hB : Blt I w) {B : List Hd}
    (hBe : B = seg H (kp H p 1) (cq H p - kp H p 1) ++ ((58, pm H p, 0) :: (xp H (kp H (cq H p) 0) ++ (xp H (kp H p 0) ++ seg H (cq H p + sp H (cq H p)) (kp H p 1 + sp H (kp H p 1) - (cq H p + sp H (cq H p)))))))
    (hl : w.length + (tk B).length ≤ 60) {Q : Post}
    (hQ : ∀ I', Blt I' (w ++ tk B) → FrB I I' → Q none I') : R 62 0 [(0, .inr (some 37))] [] I Q := by
  have hw := prog_wfa hH
  have h60 := prog_60 hH
  have hx := hH.2.2.2
  have hpt : pts (lt H p) = 2 := by rw [ho]; rfl
  have hk0 := kp_len hw hp (j := 0) (by omega)
  have hk1 := kp_len hw hp (j := 1) (by omega)
  have hs1 := sp_le (H := H) (p := kp H p 1) (by omega)
  obtain ⟨c1, c2, c3, c4, c5⟩ := cC_one hc
  have e : lcl H (nm H p) (kp H p 1) (sp H (kp H p 1)) = cq H p := rfl
  rw [e] at c1 c2 c3 c4 c5
  generalize cq H p = q at c1 c2 c3 c4 c5 hBe
  have hq : q < H.length := by omega
  have hqk := kp_len hw hq (j := 0) (by rw [c3]; decide)
  have hqn := nest hw hk1 c1 c2
  have tkB : tk B = tk (seg H (kp H p 1) (q - kp H p 1)) ++ ([58] ++ ([pm H p] ++ (tk (xp H (kp H q 0)) ++ (tk (xp H (kp H p 0)) ++ tk (seg H (q + sp H q) (kp H p 1 + sp H (kp H p 1) - (q + sp H q))))))) := by
    rw [hBe, tk_app, tk_cons, tk_app, tk_app]
    rfl
  have lB : (tk B).length = (tk (seg H (kp H p 1) (q - kp H p 1))).length + (1 + (1 + ((tk (xp H (kp H q 0))).length + ((tk (xp H (kp H p 0))).length + (tk (seg H (q + sp H q) (kp H p 1 + sp H (kp H p 1) - (q + sp H q)))).length)))) := by
    rw [tkB]
    simp only [List.length_append, List.length_singleton]
  refine t62_0 I ?_
  rw [h3, SOK.k1 hH hS hp (by omega), (hS.row hH hp).2.1]
  refine R_onlyCall hH hS hk1 c1 c2 c3 c4 c5 ⟨_, rfl, ?_⟩
  rw [(hS.row hH hk1).2.2.2.1, (hS.row hH hq).2.2.2.1]
  refine R_copyTo hH hS (w := w) c1 hB (by omega) (fun I1 b1 f1 => ⟨rfl, ?_⟩)
  have S1 := hS.frB f1
  refine R_copySign b1 (by rw [List.length_append]; omega) (fun I2 b2 f2 => ⟨rfl, ?_⟩)
  have S2 := S1.frB f2
  have p2 : I2 37 3 = (p : Int) := by rw [f2.2 3 (by decide), f1.2 3 (by decide)]; exact h3
  rw [p2, (S2.row hH hp).2.2.1]
  refine R_copySign b2 (by simp only [List.length_append, List.length_singleton]; omega) (fun I3 b3 f3 => ⟨rfl, ?_⟩)
  have S3 := S2.frB f3
  rw [SOK.k0 hH hq]
  refine R_copyX hH S3 hqk b3 (by simp only [List.length_append, List.length_singleton]; omega) (fun I4 b4 f4 => ⟨rfl, ?_⟩)
  have S4 := S3.frB f4
  have p4 : I4 37 3 = (p : Int) := by rw [f4.2 3 (by decide), f3.2 3 (by decide)]; exact p2
  rw [p4, SOK.k0 hH hp]
  refine R_copyX hH S4 hk0 b4 (by simp only [List.length_append, List.length_singleton]; omega) (fun I5 b5 f5 => ⟨rfl, ?_⟩)
  have S5 := S4.frB f5
  rw [(S5.row hH hq).2.2.2.2.1, (S5.row hH hk1).2.2.2.2.1]
  refine R_copyTo hH S5 hqn b5 (by simp only [List.length_append, List.length_singleton]; omega) (fun I6 b6 f6 => ⟨rfl, hQ I6 ?_ (f1.trans (f2.trans (f3.trans (f4.trans (f5.trans f6)))))⟩)
  rw [tkB]
  simpa [List.append_assoc] using b6
