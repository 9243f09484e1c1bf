/-! One turn of the machine. -/
theorem Kf_fun {H : List Hd} (he : ex kE H) (hw : wfa H) {c : Int} (hc : isFun c = true) : ∀ q, q < H.length → Kf H q c = true → ∃ a, a < q ∧ lt H a = 64 ∧ nm H a = c := by
  intro q
  induction q using Nat.strongRecOn with
  | _ q ih =>
    intro hq hk
    rcases Nat.eq_zero_or_pos q with h0 | h0
    · subst h0
      rw [Kf_0] at hk
      cases hk
    · obtain ⟨a, j, a1, a2, a3⟩ := kp_surj hw q h0 hq
      have ha : a < H.length := by omega
      obtain ⟨Gs, Ss, -, f2, -, -⟩ := fl_at he ha
      have hjl : j < Ss.length := by rw [cs_len f2]; exact a2
      have hkid := Kf_kid he hw ha a2 f2
      rw [a3] at hkid
      have up : Kf H a c = true → ∃ a', a' < q ∧ lt H a' = 64 ∧ nm H a' = c := fun h => by
        obtain ⟨x, x1, x2⟩ := ih a a1 ha h
        exact ⟨x, by omega, x2⟩
      have hv : ∀ v, isVal v = true → c ≠ v := by
        intro v hv e
        rw [e] at hc
        rw [(isVal_not hv).2.2.2.1] at hc
        cases hc
      rcases cs_cases f2 with ⟨-, rfl⟩ | ⟨-, rfl⟩ | ⟨-, rfl⟩ | ⟨-, h2, rfl⟩ | ⟨h1, h2, h3, rfl⟩ | ⟨-, -, -, rfl⟩
      · simp at hkid
      · simp only [List.length_cons, List.length_nil] at hjl
        rcases (by omega : j = 0 ∨ j = 1) with rfl | rfl <;> (simp at hkid; rw [hkid] at hk; exact up hk)
      · simp only [List.length_cons, List.length_nil] at hjl
        rcases (by omega : j = 0 ∨ j = 1 ∨ j = 2) with rfl | rfl | rfl <;> (simp at hkid; rw [hkid] at hk; exact up hk)
      · simp only [List.length_cons, List.length_nil] at hjl
        rcases (by omega : j = 0 ∨ j = 1) with rfl | rfl
        · simp at hkid; rw [hkid] at hk; exact up hk
        · simp at hkid
          rw [hkid] at hk
          unfold ins at hk
          have := hv _ h2
          simp [this] at hk
          exact up hk
      · simp only [List.length_cons, List.length_nil] at hjl
        rcases (by omega : j = 0 ∨ j = 1) with rfl | rfl
        · simp at hkid
          rw [hkid] at hk
          unfold ins at hk
          have := hv _ h3
          simp [this] at hk
          rcases hk with hk | hk
          · exact ⟨a, a1, h1, hk.symm⟩
          · exact up hk
        · simp at hkid
          rw [hkid] at hk
          unfold ins at hk
          simp at hk
          rcases hk with hk | hk
          · exact ⟨a, a1, h1, hk.symm⟩
          · exact up hk
      · simp only [List.length_cons, List.length_nil] at hjl
        have : j = 0 := by omega
        subst this
        simp at hkid; rw [hkid] at hk; exact up hk
theorem dfN_spec {H : List Hd} {f : Nat} : ∀ n, (∃ a, a < n ∧ lt H a = 64 ∧ nm H a = 65 + (f : Int)) → ∃ d : Nat, dfN H f n = (d : Int) ∧ d < n ∧ lt H d = 64 ∧ nm H d = 65 + (f : Int) := by
  intro n
  induction n with
  | zero => intro ⟨a, h, _⟩; omega
  | succ n ih =>
    intro ⟨a, h1, h2, h3⟩
    unfold dfN
    by_cases hn : lt H n = 64 ∧ nm H n = 65 + (f : Int)
    · rw [if_pos hn]
      exact ⟨n, rfl, by omega, hn.1, hn.2⟩
    · rw [if_neg hn]
      have han : a ≠ n := fun e => hn (by rw [← e]; exact ⟨h2, h3⟩)
      obtain ⟨d, d1, d2, d3⟩ := ih ⟨a, by omega, h2, h3⟩
      exact ⟨d, d1, by omega, d3⟩
/-- the expression that tells the function of a call -/
def tell (H : List Hd) (p : Nat) : Nat := (df H (fnr H p)).toNat
theorem tell_spec {H : List Hd} (he : ex kE H) (hw : wfa H) {p : Nat} (hp : p < H.length) (hl : lt H p = 33) : df H (fnr H p) = (tell H p : Int) ∧ tell H p < H.length ∧ lt H (tell H p) = 64 ∧ nm H (tell H p) = nm H p := by
  obtain ⟨c1, c2⟩ := call_fun he hp hl
  obtain ⟨a, a1, a2, a3⟩ := Kf_fun he hw c1 p hp c2
  have hr := fun_range c1
  have e : nm H p = 65 + (fnr H p : Int) := by unfold fnr; omega
  obtain ⟨d, d1, d2, d3, d4⟩ := dfN_spec (H := H) (f := fnr H p) H.length ⟨a, by omega, a2, by rw [a3]; exact e⟩
  have ed : tell H p = d := by unfold tell df; rw [d1]; rfl
  rw [ed]
  exact ⟨d1, d2, d3, by rw [d4, ← e]⟩
def givF (I : Mem) (v : Int) : Mem := upd2 (upd2 I 26 1 v) 26 11 (I 26 11 - 1)
def lnkF (I : Mem) (o n v : Int) : Mem := upd2 (upd2 (upd2 (upd2 I 34 (I 26 15).toNat n) 35 (I 26 15).toNat v) 36 (I 26 15).toNat o) 26 15 (I 26 15 + 1)
/-- a turn, with the top one's place k, its number p, scope s, stage g; J: its stage has gone on -/
noncomputable def goG (H : List Hd) (k p : Nat) (s g : Int) (J : Mem) : Mem :=
  if isOpr (lt H p) = true then (if g = 0 then begF J (kp H p 0) s else if g = 1 then begF (upd2 J 33 k (J 26 1)) (kp H p 1) s else givF J (oper (lt H p) (J 33 k) (J 26 1)))
  else if lt H p = 63 then (if g = 0 then begF J (kp H p 0) s else if g = 1 then begF J (if J 26 1 = 0 then kp H p 1 else kp H p 2) s else givF J (J 26 1))
  else if lt H p = 58 then (if g = 0 then begF J (kp H p 0) s else if g = 1 then begF (lnkF J s (nm H p) (J 26 1)) (kp H p 1) (J 26 15) else givF J (J 26 1))
  else if lt H p = 64 then (if g = 0 then begF (lnkF J s (nm H p) 0) (kp H p 1) (J 26 15) else givF J (J 26 1))
  else if lt H p = 33 then (if g = 0 then begF J (kp H p 0) s
    else if g = 1 then begF (lnkF (cntF (upd2 J 26 3 (J 26 3 + 1)) 1 (wy H p).toNat) (fndF (cntF (upd2 J 26 3 (J 26 3 + 1)) 1 (wy H p).toNat) (nm H p) 300 s) (pm H (tell H p)) (J 26 1)) (kp H (tell H p) 0) (J 26 15)
    else givF (cntF J (-1) (wy H p).toNat) (J 26 1))
  else givF J (if isDig (lt H p) = true then lt H p - 48 else if lt H p = 120 then J 26 16 else if lt H p = 121 then J 26 17 else rd J 35 (fndF J (lt H p) 300 s))
noncomputable def goF (H : List Hd) (I : Mem) : Mem := goG H (opn I - 1) (I 30 (opn I - 1)).toNat (I 31 (opn I - 1)) (I 32 (opn I - 1)) (upd2 I 32 (opn I - 1) (I 32 (opn I - 1) + 1))
