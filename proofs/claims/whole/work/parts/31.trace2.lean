/-! The loops of Flow.trace. -/
theorem considerAll_loop {H : List Hd} (h60 : H.length ≤ 60) (he : ex kE H) (hw : wfa H) (hTR : TailRec H (tl H) (bd H)) {I0 : Mem} (hT : TreeOK I0 9 H) (ht : ∀ p, p < H.length → I0 21 p = tl H p ∧ I0 22 p = bd H p) {b : Nat → Int} {Q : Post}
    (hQ : ∀ (I : Mem) (v : Int), Fr25 I0 I → (∀ f, f < 6 → I 25 f = passR H b H.length f) → (v = 0 ∧ ¬ chgN H b H.length ∨ v = 1 ∧ chgN H b H.length) → Q (some (.inl v)) I) :
    ∀ (d p : Nat) (v : Int) (I : Mem), p + d = H.length → Fr25 I0 I → (∀ f, f < 6 → I 25 f = passR H b p f) → (v = 0 ∧ ¬ chgN H b p ∨ v = 1 ∧ chgN H b p) → R 2 4 [(0, .inr (some 20)), (1, .inr (some 9)), (2, .inl v), (3, .inl (p : Int))] [] I Q := by
  intro d
  induction d with
  | zero =>
    intro p v I hp hF hb hv
    have hp : p = H.length := by omega
    subst hp
    have hsz : I 9 0 = (H.length : Int) := by rw [hF 9 (by omega)]; exact hT.1
    refine t2_4 I _ _ ?_
    rw [hsz]
    refine ⟨fun _ => ⟨?_, hQ I v hF hb hv⟩, fun h => absurd (Int.le_refl _) h⟩
    rcases hv with hv | hv
    · exact Or.inl hv.1
    · exact Or.inr hv.1
  | succ d ih =>
    intro p v I hp hF hb hv
    have hp : p < H.length := by omega
    have hsz : I 9 0 = (H.length : Int) := by rw [hF 9 (by omega)]; exact hT.1
    have r10 : rd I 10 (p : Int) = lt H p := by rw [tree_rd (t := 9) (H := H) (Or.inl rfl) h60 1 p (by omega) (by omega) hp, hF _ (by omega)]; exact (hT.2.1 p hp).1
    have r11 : rd I 11 (p : Int) = nm H p := by rw [tree_rd (t := 9) (H := H) (Or.inl rfl) h60 2 p (by omega) (by omega) hp, hF _ (by omega)]; exact (hT.2.1 p hp).2.1
    refine t2_4 I _ _ ?_
    rw [hsz, r10, r11, wrap_succ (by omega)]
    refine ⟨fun h => absurd h (by omega), fun _ => ⟨fun hl => ?_, fun hl => ?_⟩⟩
    · have hc : ¬ chg H (passR H b p) p := fun q => hl q.1
      refine ih (p + 1) v I (by omega) hF (fun f hf => ?_) ?_
      · unfold passR
        rw [stepR_neg hc]
        exact hb f hf
      · rcases hv with ⟨e, hn⟩ | ⟨e, hn⟩
        · exact Or.inl ⟨e, fun q => q.elim hn hc⟩
        · exact Or.inr ⟨e, Or.inl hn⟩
    · refine R_consider h60 he hb (fun q hq => by rw [hF 21 (by omega), hF 22 (by omega)]; exact ht q hq) hTR hw hp (by simpa using hl) (fun hc => ⟨0, rfl, ?_⟩) (fun I' hc hF' hb' => ⟨1, rfl, ?_⟩)
      · refine ⟨fun _ => ih (p + 1) v I (by omega) hF (fun f hf => ?_) ?_, fun q => absurd rfl q⟩
        · unfold passR
          rw [stepR_neg hc]
          exact hb f hf
        · rcases hv with ⟨e, hn⟩ | ⟨e, hn⟩
          · exact Or.inl ⟨e, fun q => q.elim hn hc⟩
          · exact Or.inr ⟨e, Or.inl hn⟩
      · refine ⟨fun q => absurd q (by omega), fun _ => ih (p + 1) 1 I' (by omega) (fun id hid => (hF' id hid).trans (hF id hid)) (fun f hf => ?_) (Or.inr ⟨rfl, Or.inr hc⟩)⟩
        exact hb' f hf
theorem R_considerAll {H : List Hd} (h60 : H.length ≤ 60) (he : ex kE H) (hw : wfa H) (hTR : TailRec H (tl H) (bd H)) {I : Mem} (hT : TreeOK I 9 H) (ht : ∀ p, p < H.length → I 21 p = tl H p ∧ I 22 p = bd H p) {b : Nat → Int} (hb : ∀ f, f < 6 → I 25 f = b f) {Q : Post}
    (hQ : ∀ (I' : Mem) (v : Int), Fr25 I I' → (∀ f, f < 6 → I' 25 f = passR H b H.length f) → (v = 0 ∧ ¬ chgN H b H.length ∨ v = 1 ∧ chgN H b H.length) → Q (some (.inl v)) I') :
    R 2 0 [(0, .inr (some 20)), (1, .inr (some 9))] [] I Q :=
  t2_0 I (considerAll_loop h60 he hw hTR hT ht hQ H.length 0 0 I (by omega) (fun _ _ => rfl) hb (Or.inl ⟨rfl, fun h => h⟩))
/-- the passes -/
theorem passes_loop {H : List Hd} (h60 : H.length ≤ 60) (he : ex kE H) (hw : wfa H) (hTR : TailRec H (tl H) (bd H)) {I0 : Mem} (hT : TreeOK I0 9 H) (ht : ∀ p, p < H.length → I0 21 p = tl H p ∧ I0 22 p = bd H p) {Q : Post}
    (hQ : ∀ (I : Mem), Fr25 I0 I → (∀ f, f < 6 → I 25 f = rt H f) → R 0 116 [(0, .inr (some 20)), (1, .inr (some 9)), (3, .inl 0)] [] I Q) :
    ∀ (d r : Nat) (I : Mem), r + d = 13 → Fr25 I0 I → (∀ f, f < 6 → I 25 f = itR H r f) → (∀ i, i < r → chgN H (itR H i) H.length) → R 0 92 [(0, .inr (some 20)), (1, .inr (some 9)), (2, .inl 1), (3, .inl (r : Int))] [] I Q := by
  intro d
  induction d with
  | zero =>
    intro r I hr hF hb hc
    exact absurd (it_12 he hc) (by omega)
  | succ d ih =>
    intro r I hr hF hb hc
    have hr12 := it_12 he hc
    refine t0_92 I _ _ ⟨fun h => absurd h (by omega), fun _ => ⟨fun h => absurd h (by omega), fun _ => ?_⟩⟩
    have hT' : TreeOK I 9 H := by
      have e : ∀ k, k ≤ 10 → I (9 + k) = I0 (9 + k) := fun k hk => hF _ (by omega)
      obtain ⟨g1, g2, g3, g4, g5⟩ := hT
      refine ⟨by rw [hF 9 (by omega)]; exact g1, g2.of (fun k h1 h2 => e k (by omega)), g3.of (fun k h1 h2 => e k (by omega)), fun q hq => ?_, g5.of (e 9 (by omega))⟩
      unfold ESp
      rw [e 5 (by omega), e 6 (by omega)]
      exact g4 q hq
    refine R_considerAll h60 he hw hTR hT' (fun p hp => by rw [hF 21 (by omega), hF 22 (by omega)]; exact ht p hp) hb (fun I' v hF' hb' hv => ⟨v, rfl, ?_⟩)
    rw [wrap_succ (by omega)]
    have hF2 : Fr25 I0 I' := fun id hid => (hF' id hid).trans (hF id hid)
    rcases hv with ⟨rfl, hn⟩ | ⟨rfl, hn⟩
    · have e : passR H (itR H r) H.length = itR H r := (pass_rank he _ (Nat.le_refl _)).1 hn
      have hres := hQ I' hF2 (fun f hf => by rw [hb' f hf, e, it_rt he (by omega) hn])
      exact t0_92 I' _ _ ⟨fun _ => hres, fun _ => ⟨fun _ => hres, fun q => absurd rfl q⟩⟩
    · refine ih (r + 1) I' (by omega) hF2 hb' (fun i hi => ?_)
      rcases Nat.lt_or_ge i r with h | h
      · exact hc i h
      · have : i = r := by omega
        subst this
        exact hn
def Fr2 (I0 I : Mem) : Prop := ∀ id, (id < 21 ∨ 25 < id) → I id = I0 id
theorem TreeOK.fr {I I0 : Mem} {t : Nat} {H : List Hd} (h : TreeOK I0 t H) (e : ∀ k, k ≤ 10 → I (t + k) = I0 (t + k)) : TreeOK I t H := by
  obtain ⟨g1, g2, g3, g4, g5⟩ := h
  refine ⟨by have := e 0 (by omega); rw [Nat.add_zero] at this; rw [this]; exact g1, g2.of (fun k h1 h2 => e k (by omega)), g3.of (fun k h1 h2 => e k (by omega)), fun q hq => ?_, g5.of (e 9 (by omega))⟩
  unfold ESp
  rw [e 5 (by omega), e 6 (by omega)]
  exact g4 q hq
/-- the ways of counting frames -/
theorem ways_loop {H : List Hd} (h60 : H.length ≤ 60) (he : ex kE H) (hw : wfa H) {I0 : Mem} (hT : TreeOK I0 9 H) (ht : ∀ p, p < H.length → I0 21 p = tl H p) (hr : ∀ f, f < 6 → I0 25 f = rt H f) {Q : Post}
    (hQ : ∀ (I : Mem), (∀ id, id ≠ 23 → I id = I0 id) → (∀ p, p < H.length → lt H p = 33 → I 23 p = wy H p) → Q none I) :
    ∀ (d p : Nat) (I : Mem), p + d = H.length → (∀ id, id ≠ 23 → I id = I0 id) → (∀ q, q < p → lt H q = 33 → I 23 q = wy H q) → R 0 116 [(0, .inr (some 20)), (1, .inr (some 9)), (3, .inl (p : Int))] [] I Q := by
  intro d
  induction d with
  | zero =>
    intro p I hp hF hy
    have hp : p = H.length := by omega
    subst hp
    refine t0_116 I _ ?_
    rw [hF 9 (by omega), hT.1]
    exact ⟨fun _ => hQ I hF hy, fun h => absurd (Int.le_refl _) h⟩
  | succ d ih =>
    intro p I hp hF hy
    have hp : p < H.length := by omega
    have r11 : rd I 11 (p : Int) = nm H p := by rw [tree_rd (t := 9) (H := H) (Or.inl rfl) h60 2 p (by omega) (by omega) hp, hF _ (by omega)]; exact (hT.2.1 p hp).2.1
    have r21 : rd I 21 (p : Int) = tl H p := by rw [rd_nat (by rw [sz21]; omega), hF 21 (by omega)]; exact ht p hp
    have w23 : ∀ v, wr I 23 (p : Int) v = upd2 I 23 p v := fun v => wr_nat (by rw [sz23]; omega)
    have go : ∀ v, (lt H p = 33 → v = wy H p) → R 0 116 [(0, .inr (some 20)), (1, .inr (some 9)), (3, .inl ((p + 1 : Nat) : Int))] [] (upd2 I 23 p v) Q := by
      intro v hv
      refine ih (p + 1) _ (by omega) (fun id hid => (upd2_id hid).trans (hF id hid)) (fun q hq hlq => ?_)
      rw [upd2_at]
      by_cases hqp : q = p
      · rw [if_pos ⟨rfl, hqp⟩, hqp]
        exact hv (by rw [← hqp]; exact hlq)
      · rw [if_neg (fun z => hqp z.2)]
        exact hy q (by omega) hlq
    have rj : lt H p = 33 → rd I 25 (wrap (nm H p - 65)) = rt H (fnr H p) := by
      intro hl
      have hfr := fun_range (call_fun he hp hl).1
      have hfn : wrap (nm H p - 65) = (fnr H p : Int) := by unfold fnr; rw [wrap_of (by omega) (by omega)]; omega
      have hf6 := fnr_lt he hp hl
      rw [hfn, rd_nat (by rw [sz25]; omega), hF 25 (by omega)]
      exact hr _ hf6
    refine t0_116 I _ ?_
    rw [hF 9 (by omega), hT.1, r11, r21, wrap_succ (by omega)]
    dsimp only
    rw [w23, w23, w23]
    refine ⟨fun h => absurd h (by omega), fun _ => ⟨fun q1 => ⟨fun q2 => go 3 (fun hl => ?_), fun q2 => go 1 (fun hl => ?_)⟩, fun q1 => ⟨fun q2 => go 2 (fun hl => ?_), fun q2 => go 1 (fun hl => ?_)⟩⟩⟩
    · rw [b2i_0] at q1 q2
      rw [rj hl] at q1
      unfold wy
      rw [if_neg (by simpa using q2), if_neg (by rw [q1]; decide)]
    · rw [b2i_0] at q2
      unfold wy
      rw [if_pos (by simpa using q2)]
    · rw [b2i_0] at q1 q2
      rw [rj hl] at q1
      unfold wy
      rw [if_neg (by simpa using q2), if_pos (by simpa using q1)]
    · rw [b2i_0] at q2
      unfold wy
      rw [if_pos (by simpa using q2)]
