/-! ===== the reference's constructor ===== -/
def fMt : List Nat := [0, 1, 2, 3, 4, 5, 6, 7, 8, 16, 18, 19, 22, 23, 25, 26, 27, 28, 29, 30, 31, 32, 33, 34, 39, 40, 41, 43, 44, 45, 46, 47, 48, 49, 50, 51]
theorem pM_invF : ∀ k : Fin 52, ∀ j, pM 0 k.val = some j → k.val = fMt.getD j 99 ∧ j < 36 ∧ 0 < j := by
  intro ⟨k, hk⟩ j hj
  have : ∀ k : Fin 52, (match pM 0 k.val with | some j => decide (k.val = fMt.getD j 99 ∧ j < 36 ∧ 0 < j) | none => true) = true := by decide
  have := this ⟨k, hk⟩
  rw [hj] at this
  exact of_decide_eq_true this
theorem pM_inv {k j : Nat} (h : pM 0 k = some j) : k = fMt.getD j 99 ∧ j < 36 ∧ 0 < j := by
  by_cases c : k < 52
  · exact pM_invF ⟨k, c⟩ j h
  · exfalso
    have e : pM 0 k = pMt.getD k none := rfl
    have l : pMt.length = 52 := rfl
    rw [e, List.getD_eq_getElem?_getD, List.getElem?_eq_none (by omega)] at h
    cases h
theorem pM_off {a k : Nat} (h : a ≠ 0) : pM a k = none := by
  unfold pM
  have : Nat.beq a 0 = false := by cases a with
    | zero => exact (h rfl).elim
    | succ n => rfl
  rw [this]; rfl
def pLk (m l a k : Nat) : Option Nat := match pM a k with
  | some j => if j < l then some (j + m) else none
  | none => none
/-- n of its cells stand, l of them are linked -/
def MoS (h g : AHp) (m n l : Nat) (M : MT) : Prop := hsz g = n + m ∧ hsu g ≤ hsu h + 2002 * n ∧ Keep h g (fun _ => False) ∧ m = hsz h ∧ ∀ a, a < n → hk g (a + m) = kM a ∧ hLen g (a + m) = lM a ∧ (∀ k, hI g (a + m) k = M a k) ∧ (∀ k, hP g (a + m) k = pLk m l a k) ∧ ∀ k, hJ g (a + m) k = 0
section MINI
variable {h g : AHp} {m n l : Nat} {M : MT} {lim : Nat × Nat} {d : Nat} {R : RT} {X : XT}
theorem MoS.k7 (S : MoS h g m n l M) (hn : 0 < n) : hk g m = 7 := by
  have := (S.2.2.2.2 0 hn).1
  rw [Nat.zero_add] at this; exact this
theorem MoS.nw (S : MoS h g m n l M) {c len : Nat} (hn : 0 < n) (hc : kM n = c) (hl : lM n = len) (h0 : ∀ k, M n k = 0) (hlen : len ≤ 2002) : MoS h (_root_.Jvm.Pilot.CIntervalTreeLaw_law_r9763_99fb55.nw g c len) m (n + 1) l M := by
  obtain ⟨s1, s2, s3, s4, s5⟩ := S
  refine ⟨by show hsz g + 1 = _; omega, by show hsu g + len ≤ _; omega, s3.trans nw_keep, s4, fun a ha => ?_⟩
  by_cases e : a = n
  · subst e
    have ez : a + m = hsz g := by omega
    rw [ez]
    refine ⟨(up1_on _).trans hc.symm, (up1_on _).trans hl.symm, fun k => ?_, fun k => ?_, fun k => if_pos rfl⟩
    · rw [h0]; exact if_pos rfl
    · unfold pLk; rw [pM_off (by omega)]; exact if_pos rfl
  · have q := s5 a (by omega)
    have ne : a + m ≠ hsz g := by omega
    exact ⟨(up1_off _ ne).trans q.1, (up1_off _ ne).trans q.2.1, fun k => (if_neg ne).trans (q.2.2.1 k), fun k => (if_neg ne).trans (q.2.2.2.1 k), fun k => (if_neg ne).trans (q.2.2.2.2 k)⟩
theorem MoS.sP (S : MoS h g m n l M) {f : Nat} {v : Option Nat} (hl : l < n) (hf : pM 0 f = some l) (hv : v = some (l + m)) : MoS h (_root_.Jvm.Pilot.CIntervalTreeLaw_law_r9763_99fb55.sP g m f v) m n (l + 1) M := by
  obtain ⟨s1, s2, s3, s4, s5⟩ := S
  refine ⟨s1, s2, sP_kp s3 (Or.inl (by omega)), s4, fun a ha => ?_⟩
  have q := s5 a ha
  refine ⟨q.1, q.2.1, q.2.2.1, fun k => ?_, q.2.2.2.2⟩
  rw [hP_sP]
  by_cases e : a + m = m ∧ k = f
  · rw [e.1, e.2, hPq_at, hv]
    have : a = 0 := by omega
    unfold pLk; rw [this, hf]
    show _ = if l < l + 1 then some (l + m) else none
    rw [if_pos (by omega)]
  · rw [hPq_ne e, q.2.2.2.1 k]
    unfold pLk
    by_cases e0 : a = 0
    · have ek : k ≠ f := fun z => e ⟨by omega, z⟩
      rw [e0]
      cases hp : pM 0 k with
      | none => rfl
      | some j =>
        have : j ≠ l := fun z => ek (by rw [(pM_inv hp).1, (pM_inv hf).1, z])
        show (if j < l then some (j + m) else none) = if j < l + 1 then some (j + m) else none
        by_cases c : j < l
        · rw [if_pos c, if_pos (by omega)]
        · rw [if_neg c, if_neg (by omega)]
    · rw [pM_off e0]
theorem MoS.sI (S : MoS h g m n l M) {a k x : Nat} {v : Int32} (ha : a < n) (hx : x = a + m) : MoS h (_root_.Jvm.Pilot.CIntervalTreeLaw_law_r9763_99fb55.sI g x k v) m n l (up2 M a k v) := by
  obtain ⟨s1, s2, s3, s4, s5⟩ := S
  subst hx
  refine ⟨s1, s2, sI_kp s3 (Or.inl (by omega)), s4, fun b hb => ?_⟩
  have q := s5 b hb
  refine ⟨q.1, q.2.1, fun j => ?_, q.2.2.2.1, q.2.2.2.2⟩
  by_cases e : b = a ∧ j = k
  · rw [e.1, e.2, hI_at, up2_at]
  · rw [hI_ne (by omega), up2_ne e]; exact q.2.2.1 j
/-- a cell more, linked at once -/
theorem MoS.al (S : MoS h g m n n M) {c len f : Nat} (hn : 0 < n) (hc : kM n = c) (hl : lM n = len) (h0 : ∀ k, M n k = 0) (hlen : len ≤ 2002) (hf : pM 0 f = some n) : MoS h (_root_.Jvm.Pilot.CIntervalTreeLaw_law_r9763_99fb55.sP (_root_.Jvm.Pilot.CIntervalTreeLaw_law_r9763_99fb55.nw g c len) m f (some (hsz g))) m (n + 1) (n + 1) M :=
  (S.nw hn hc hl h0 hlen).sP (by omega) hf (by rw [S.1])
theorem MoS.k7n (S : MoS h g m n l M) {c len : Nat} (hn : 0 < n) : hk (_root_.Jvm.Pilot.CIntervalTreeLaw_law_r9763_99fb55.nw g c len) m = 7 := (up1_off _ (by have := S.1; omega)).trans (S.k7 hn)
theorem MoS.z (S : MoS h g m n l M) (hn : n ≤ 36) (hz : hsz h + 40 ≤ lim.1) : hsz g + 1 ≤ lim.1 := by
  have := S.1; have := S.2.2.2.1; omega
theorem MoS.u (S : MoS h g m n l M) {len : Nat} (hn : n ≤ 36) (hl : len ≤ 2002) (hu : hsu h + 80000 ≤ lim.2) : hsu g + len ≤ lim.2 := by
  have := S.2.1; omega
theorem MoS.ref (S : MoS h g m 36 36 M) : RefAt g m M := by
  obtain ⟨s1, s2, s3, s4, s5⟩ := S
  refine ⟨by omega, fun a ha => ?_⟩
  have q := s5 a ha
  refine ⟨q.1, q.2.1, q.2.2.1, fun k => ?_, q.2.2.2.2⟩
  rw [q.2.2.2.1 k]
  unfold pLk
  by_cases e : a = 0
  · rw [e]
    cases hp : pM 0 k with
    | none => rfl
    | some j =>
      show (if j < 36 then some (j + m) else none) = some (j + m)
      rw [if_pos (pM_inv hp).2.1]
  · rw [pM_off e]; rfl
end MINI
def Z0 : MT := fun _ _ => 0
def Z1 : MT := up2 Z0 0 0 0
def Z2 : MT := up2 (up2 (up2 Z1 0 9 (-1)) 0 10 0) 0 11 0
def Z3 : MT := up2 (up2 (up2 (up2 Z2 0 12 0) 0 13 50) 0 14 0) 0 15 0
def Z4 : MT := up2 (up2 Z3 0 17 0) 0 24 3
def Z5 : MT := up2 (up2 (up2 (up2 (up2 (up2 (up2 (up2 Z4 14 0 0) 14 1 1) 14 2 2) 14 3 0) 14 4 0) 14 5 0) 14 6 0) 14 7 0
def Z6 : MT := up2 (up2 (up2 (up2 Z5 0 35 0) 0 36 0) 0 37 0) 0 38 0
/-- the memory of a new reference -/
def Z7 : MT := up2 Z6 0 42 0
section MINI2
variable {h : AHp} {lim : Nat × Nat} {d : Nat} {R : RT} {X : XT}
theorem z500 : (500 : Int32).toNatClampNeg = 500 := rfl
theorem z480 : (480 : Int32).toNatClampNeg = 480 := rfl
theorem z2002 : (2002 : Int32).toNatClampNeg = 2002 := rfl
theorem z501 : (501 : Int32).toNatClampNeg = 501 := rfl
theorem z8 : (8 : Int32).toNatClampNeg = 8 := rfl
theorem z60 : (60 : Int32).toNatClampNeg = 60 := rfl
theorem z4 : (4 : Int32).toNatClampNeg = 4 := rfl
theorem z7 : (7 : Int32).toNatClampNeg = 7 := rfl
theorem Mo_390 {g : AHp} {m : Nat} (S : MoS h g m 33 33 Z7) (hz : hsz h + 40 ≤ lim.1) (hu : hsu h + 80000 ≤ lim.2) (q : ∀ g, MoS h g m 36 36 Z7 → R none g) : WP lim d j_Mo_init 390 [some (vr (some m))] [] g R X := by
  refine B_Mo_init_390 ?_
  rw [z500, z7]
  refine ⟨by decide, by decide, S.z (by decide) hz, S.u (by decide) (by decide) hu, S.k7n (by decide), ?_⟩
  intro h1
  have S1 : MoS h h1 m 34 34 Z7 := S.al (by decide) rfl rfl (fun k => rfl) (by decide) rfl
  clear_value h1
  refine ⟨by decide, by decide, S1.z (by decide) hz, S1.u (by decide) (by decide) hu, S1.k7n (by decide), ?_⟩
  intro h2
  have S2 : MoS h h2 m 35 35 Z7 := S1.al (by decide) rfl rfl (fun k => rfl) (by decide) rfl
  clear_value h2
  refine ⟨by decide, by decide, S2.z (by decide) hz, S2.u (by decide) (by decide) hu, S2.k7n (by decide), ?_⟩
  intro h3
  have S3 : MoS h h3 m 36 36 Z7 := S2.al (by decide) rfl rfl (fun k => rfl) (by decide) rfl
  clear_value h3
  exact ⟨rfl, q h3 S3⟩
theorem Mo_324 {g : AHp} {m : Nat} (S : MoS h g m 26 26 Z6) (hz : hsz h + 40 ≤ lim.1) (hu : hsu h + 80000 ≤ lim.2) (q : ∀ g, MoS h g m 36 36 Z7 → R none g) : WP lim d j_Mo_init 324 [some (vr (some m))] [] g R X := by
  refine B_Mo_init_324 ?_
  rw [z500, z4]
  refine ⟨by decide, by decide, S.z (by decide) hz, S.u (by decide) (by decide) hu, S.k7n (by decide), ?_⟩
  intro h1
  have S1 : MoS h h1 m 27 27 Z6 := S.al (by decide) rfl rfl (fun k => rfl) (by decide) rfl
  clear_value h1
  have T1 : MoS h (sI h1 m 42 0) m 27 27 Z7 := S1.sI (a := 0) (by decide) (by omega)
  refine ⟨S1.k7 (by decide), Or.inl rfl, by decide, by decide, T1.z (by decide) hz, T1.u (by decide) (by decide) hu, ?_⟩
  generalize sI h1 m 42 0 = g1 at T1
  intro h2
  have S2 : MoS h h2 m 28 27 Z7 := T1.nw (by decide) rfl rfl (fun k => rfl) (by decide)
  clear_value h2
  refine ⟨S2.k7 (by decide), ?_⟩
  intro h3
  have S3 : MoS h h3 m 28 28 Z7 := S2.sP (by decide) rfl (by rw [T1.1])
  clear_value h3
  refine ⟨by decide, by decide, S3.z (by decide) hz, S3.u (by decide) (by decide) hu, S3.k7n (by decide), ?_⟩
  intro h4
  have S4 : MoS h h4 m 29 29 Z7 := S3.al (by decide) rfl rfl (fun k => rfl) (by decide) rfl
  clear_value h4
  refine ⟨by decide, by decide, S4.z (by decide) hz, S4.u (by decide) (by decide) hu, S4.k7n (by decide), ?_⟩
  intro h5
  have S5 : MoS h h5 m 30 30 Z7 := S4.al (by decide) rfl rfl (fun k => rfl) (by decide) rfl
  clear_value h5
  refine ⟨by decide, by decide, S5.z (by decide) hz, S5.u (by decide) (by decide) hu, S5.k7n (by decide), ?_⟩
  intro h6
  have S6 : MoS h h6 m 31 31 Z7 := S5.al (by decide) rfl rfl (fun k => rfl) (by decide) rfl
  clear_value h6
  refine ⟨by decide, by decide, S6.z (by decide) hz, S6.u (by decide) (by decide) hu, S6.k7n (by decide), ?_⟩
  intro h7
  have S7 : MoS h h7 m 32 32 Z7 := S6.al (by decide) rfl rfl (fun k => rfl) (by decide) rfl
  clear_value h7
  refine ⟨by decide, by decide, S7.z (by decide) hz, S7.u (by decide) (by decide) hu, S7.k7n (by decide), ?_⟩
  exact Mo_390 (S7.al (by decide) rfl rfl (fun k => rfl) (by decide) rfl) hz hu q
theorem Mo_273 {g : AHp} {m : Nat} (S : MoS h g m 22 22 Z5) (hz : hsz h + 40 ≤ lim.1) (hu : hsu h + 80000 ≤ lim.2) (q : ∀ g, MoS h g m 36 36 Z7 → R none g) : WP lim d j_Mo_init 273 [some (vr (some m))] [] g R X := by
  refine B_Mo_init_273 ?_
  rw [z480, z60, z4]
  refine ⟨by decide, by decide, S.z (by decide) hz, S.u (by decide) (by decide) hu, S.k7n (by decide), ?_⟩
  intro h1
  have S1 : MoS h h1 m 23 23 Z5 := S.al (by decide) rfl rfl (fun k => rfl) (by decide) rfl
  clear_value h1
  refine ⟨by decide, by decide, S1.z (by decide) hz, S1.u (by decide) (by decide) hu, S1.k7n (by decide), ?_⟩
  intro h2
  have S2 : MoS h h2 m 24 24 Z5 := S1.al (by decide) rfl rfl (fun k => rfl) (by decide) rfl
  clear_value h2
  have A1 : MoS h (sI h2 m 35 0) m 24 24 (up2 Z5 0 35 0) := S2.sI (a := 0) (by decide) (by omega)
  have A2 : MoS h (sI (sI h2 m 35 0) m 36 0) m 24 24 (up2 (up2 Z5 0 35 0) 0 36 0) := A1.sI (a := 0) (by decide) (by omega)
  refine ⟨S2.k7 (by decide), A1.k7 (by decide), A2.k7 (by decide), ?_⟩
  intro h3
  have S3 : MoS h h3 m 24 24 (up2 (up2 (up2 Z5 0 35 0) 0 36 0) 0 37 0) := A2.sI (a := 0) (by decide) (by omega)
  clear_value h3
  have T3 : MoS h (sI h3 m 38 0) m 24 24 Z6 := S3.sI (a := 0) (by decide) (by omega)
  refine ⟨S3.k7 (by decide), Or.inl rfl, by decide, by decide, T3.z (by decide) hz, T3.u (by decide) (by decide) hu, ?_⟩
  generalize sI h3 m 38 0 = g3 at T3
  intro h4
  have S4 : MoS h h4 m 25 24 Z6 := T3.nw (by decide) rfl rfl (fun k => rfl) (by decide)
  clear_value h4
  refine ⟨S4.k7 (by decide), ?_⟩
  intro h5
  have S5 : MoS h h5 m 25 25 Z6 := S4.sP (by decide) rfl (by rw [T3.1])
  clear_value h5
  refine ⟨by decide, by decide, S5.z (by decide) hz, S5.u (by decide) (by decide) hu, S5.k7n (by decide), ?_⟩
  exact Mo_324 (S5.al (by decide) rfl rfl (fun k => rfl) (by decide) rfl) hz hu q
theorem Mo_214 {g : AHp} {m : Nat} (S : MoS h g m 15 15 Z5) (hz : hsz h + 40 ≤ lim.1) (hu : hsu h + 80000 ≤ lim.2) (q : ∀ g, MoS h g m 36 36 Z7 → R none g) : WP lim d j_Mo_init 214 [some (vr (some m))] [] g R X := by
  refine B_Mo_init_214 ?_
  rw [z480, z8]
  refine ⟨by decide, by decide, S.z (by decide) hz, S.u (by decide) (by decide) hu, S.k7n (by decide), ?_⟩
  intro h1
  have S1 : MoS h h1 m 16 16 Z5 := S.al (by decide) rfl rfl (fun k => rfl) (by decide) rfl
  clear_value h1
  refine ⟨by decide, by decide, S1.z (by decide) hz, S1.u (by decide) (by decide) hu, S1.k7n (by decide), ?_⟩
  intro h2
  have S2 : MoS h h2 m 17 17 Z5 := S1.al (by decide) rfl rfl (fun k => rfl) (by decide) rfl
  clear_value h2
  refine ⟨by decide, by decide, S2.z (by decide) hz, S2.u (by decide) (by decide) hu, S2.k7n (by decide), ?_⟩
  intro h3
  have S3 : MoS h h3 m 18 18 Z5 := S2.al (by decide) rfl rfl (fun k => rfl) (by decide) rfl
  clear_value h3
  refine ⟨by decide, by decide, S3.z (by decide) hz, S3.u (by decide) (by decide) hu, S3.k7n (by decide), ?_⟩
  intro h4
  have S4 : MoS h h4 m 19 19 Z5 := S3.al (by decide) rfl rfl (fun k => rfl) (by decide) rfl
  clear_value h4
  refine ⟨by decide, by decide, S4.z (by decide) hz, S4.u (by decide) (by decide) hu, S4.k7n (by decide), ?_⟩
  intro h5
  have S5 : MoS h h5 m 20 20 Z5 := S4.al (by decide) rfl rfl (fun k => rfl) (by decide) rfl
  clear_value h5
  refine ⟨by decide, by decide, S5.z (by decide) hz, S5.u (by decide) (by decide) hu, S5.k7n (by decide), ?_⟩
  intro h6
  have S6 : MoS h h6 m 21 21 Z5 := S5.al (by decide) rfl rfl (fun k => rfl) (by decide) rfl
  clear_value h6
  refine ⟨by decide, by decide, S6.z (by decide) hz, S6.u (by decide) (by decide) hu, S6.k7n (by decide), ?_⟩
  exact Mo_273 (S6.al (by decide) rfl rfl (fun k => rfl) (by decide) rfl) hz hu q
theorem Mo_117 {g : AHp} {m : Nat} (S : MoS h g m 9 9 Z3) (hz : hsz h + 40 ≤ lim.1) (hu : hsu h + 80000 ≤ lim.2) (q : ∀ g, MoS h g m 36 36 Z7 → R none g) : WP lim d j_Mo_init 117 [some (vr (some m))] [] g R X := by
  refine B_Mo_init_117 ?_
  rw [z500, z2002, z501, z8]
  refine ⟨by decide, by decide, S.z (by decide) hz, S.u (by decide) (by decide) hu, S.k7n (by decide), ?_⟩
  intro h1
  have S1 : MoS h h1 m 10 10 Z3 := S.al (by decide) rfl rfl (fun k => rfl) (by decide) rfl
  clear_value h1
  have T1 : MoS h (sI h1 m 17 0) m 10 10 (up2 Z3 0 17 0) := S1.sI (a := 0) (by decide) (by omega)
  refine ⟨S1.k7 (by decide), by decide, by decide, T1.z (by decide) hz, T1.u (by decide) (by decide) hu, ?_⟩
  generalize sI h1 m 17 0 = g1 at T1
  intro h2
  have S2 : MoS h h2 m 11 10 (up2 Z3 0 17 0) := T1.nw (by decide) rfl rfl (fun k => rfl) (by decide)
  clear_value h2
  refine ⟨S2.k7 (by decide), ?_⟩
  intro h3
  have S3 : MoS h h3 m 11 11 (up2 Z3 0 17 0) := S2.sP (by decide) rfl (by rw [T1.1])
  clear_value h3
  refine ⟨by decide, by decide, S3.z (by decide) hz, S3.u (by decide) (by decide) hu, S3.k7n (by decide), ?_⟩
  intro h4
  have S4 : MoS h h4 m 12 12 (up2 Z3 0 17 0) := S3.al (by decide) rfl rfl (fun k => rfl) (by decide) rfl
  clear_value h4
  refine ⟨by decide, by decide, S4.z (by decide) hz, S4.u (by decide) (by decide) hu, S4.k7n (by decide), ?_⟩
  intro h5
  have S5 : MoS h h5 m 13 13 (up2 Z3 0 17 0) := S4.al (by decide) rfl rfl (fun k => rfl) (by decide) rfl
  clear_value h5
  refine ⟨by decide, by decide, S5.z (by decide) hz, S5.u (by decide) (by decide) hu, S5.k7n (by decide), ?_⟩
  intro h6
  have S6 : MoS h h6 m 14 14 (up2 Z3 0 17 0) := S5.al (by decide) rfl rfl (fun k => rfl) (by decide) rfl
  clear_value h6
  have T6 : MoS h (sI h6 m 24 3) m 14 14 Z4 := S6.sI (a := 0) (by decide) (by omega)
  refine ⟨S6.k7 (by decide), by decide, by decide, T6.z (by decide) hz, T6.u (by decide) (by decide) hu, ?_⟩
  generalize sI h6 m 24 3 = g6 at T6
  intro h7
  have S7 : MoS h h7 m 15 14 Z4 := T6.nw (by decide) rfl rfl (fun k => rfl) (by decide)
  clear_value h7
  have ez : hsz g6 = 14 + m := T6.1
  rw [ez]
  have kk : ∀ {Y : AHp} {M : MT}, MoS h Y m 15 14 M → hk Y (14 + m) = 8 ∧ hLen Y (14 + m) = 8 := fun {Y M} s => ⟨(s.2.2.2.2 14 (by decide)).1, (s.2.2.2.2 14 (by decide)).2.1⟩
  refine ⟨(kk S7).1, by rw [(kk S7).2]; unfold ix; decide, ?_⟩
  intro h8
  have S8 := S7.sI (a := 14) (k := 0) (v := 0) (by decide) rfl
  have S8 : MoS h h8 m 15 14 _ := S8
  clear_value h8
  refine ⟨(kk S8).1, by rw [(kk S8).2]; unfold ix; decide, ?_⟩
  intro h9
  have S9 : MoS h h9 m 15 14 _ := S8.sI (a := 14) (k := 1) (v := 1) (by decide) rfl
  clear_value h9
  refine ⟨(kk S9).1, by rw [(kk S9).2]; unfold ix; decide, ?_⟩
  intro h10
  have S10 : MoS h h10 m 15 14 _ := S9.sI (a := 14) (k := 2) (v := 2) (by decide) rfl
  clear_value h10
  refine ⟨(kk S10).1, by rw [(kk S10).2]; unfold ix; decide, ?_⟩
  intro h11
  have S11 : MoS h h11 m 15 14 _ := S10.sI (a := 14) (k := 3) (v := 0) (by decide) rfl
  clear_value h11
  refine ⟨(kk S11).1, by rw [(kk S11).2]; unfold ix; decide, ?_⟩
  intro h12
  have S12 : MoS h h12 m 15 14 _ := S11.sI (a := 14) (k := 4) (v := 0) (by decide) rfl
  clear_value h12
  refine ⟨(kk S12).1, by rw [(kk S12).2]; unfold ix; decide, ?_⟩
  intro h13
  have S13 : MoS h h13 m 15 14 _ := S12.sI (a := 14) (k := 5) (v := 0) (by decide) rfl
  clear_value h13
  refine ⟨(kk S13).1, by rw [(kk S13).2]; unfold ix; decide, ?_⟩
  intro h14
  have S14 : MoS h h14 m 15 14 _ := S13.sI (a := 14) (k := 6) (v := 0) (by decide) rfl
  clear_value h14
  refine ⟨(kk S14).1, by rw [(kk S14).2]; unfold ix; decide, ?_⟩
  intro h15
  have S15 : MoS h h15 m 15 14 Z5 := S14.sI (a := 14) (k := 7) (v := 0) (by decide) rfl
  clear_value h15
  exact ⟨S15.k7 (by decide), Mo_214 (S15.sP (by decide) rfl rfl) hz hu q⟩
theorem Mo_63 {g : AHp} {m : Nat} (S : MoS h g m 7 7 Z1) (hz : hsz h + 40 ≤ lim.1) (hu : hsu h + 80000 ≤ lim.2) (q : ∀ g, MoS h g m 36 36 Z7 → R none g) : WP lim d j_Mo_init 63 [some (vr (some m))] [] g R X := by
  refine B_Mo_init_63 ?_
  rw [z500]
  refine ⟨by decide, by decide, S.z (by decide) hz, S.u (by decide) (by decide) hu, S.k7n (by decide), ?_⟩
  intro h1
  have S1 : MoS h h1 m 8 8 Z1 := S.al (by decide) rfl rfl (fun k => rfl) (by decide) rfl
  clear_value h1
  refine ⟨by decide, by decide, S1.z (by decide) hz, S1.u (by decide) (by decide) hu, S1.k7n (by decide), ?_⟩
  intro h2
  have S2 : MoS h h2 m 9 9 Z1 := S1.al (by decide) rfl rfl (fun k => rfl) (by decide) rfl
  clear_value h2
  have A1 : MoS h (sI h2 m 9 (-1)) m 9 9 (up2 Z1 0 9 (-1)) := S2.sI (a := 0) (by decide) (by omega)
  have A2 : MoS h (sI (sI h2 m 9 (-1)) m 10 0) m 9 9 (up2 (up2 Z1 0 9 (-1)) 0 10 0) := A1.sI (a := 0) (by decide) (by omega)
  refine ⟨S2.k7 (by decide), A1.k7 (by decide), A2.k7 (by decide), ?_⟩
  intro h3
  have S3 : MoS h h3 m 9 9 Z2 := A2.sI (a := 0) (by decide) (by omega)
  clear_value h3
  have B1 : MoS h (sI h3 m 12 0) m 9 9 (up2 Z2 0 12 0) := S3.sI (a := 0) (by decide) (by omega)
  have B2 : MoS h (sI (sI h3 m 12 0) m 13 50) m 9 9 (up2 (up2 Z2 0 12 0) 0 13 50) := B1.sI (a := 0) (by decide) (by omega)
  refine ⟨S3.k7 (by decide), B1.k7 (by decide), B2.k7 (by decide), ?_⟩
  intro h4
  have S4 : MoS h h4 m 9 9 (up2 (up2 (up2 Z2 0 12 0) 0 13 50) 0 14 0) := B2.sI (a := 0) (by decide) (by omega)
  clear_value h4
  exact ⟨S4.k7 (by decide), Mo_117 (S4.sI (a := 0) (by decide) (by omega)) hz hu q⟩
theorem C_moInit (hz : hsz h + 40 ≤ lim.1) (hu : hsu h + 80000 ≤ lim.2) (q : ∀ g, RefAt g (hsz h) Z7 → Keep h g (fun _ => False) → hsz g = hsz h + 36 → hsu g ≤ hsu h + 80000 → R none g) : WM lim d j_Mo_init [vr (some (hsz h))] (nw h 7 52) R X := by
  have S : MoS h (nw h 7 52) (hsz h) 1 1 Z0 := by
    refine ⟨by show hsz h + 1 = _; omega, by show hsu h + 52 ≤ _; omega, nw_keep, rfl, fun a ha => ?_⟩
    have e : a = 0 := by omega
    rw [e, Nat.zero_add]
    refine ⟨up1_on _, up1_on _, fun k => if_pos rfl, fun k => ?_, fun k => if_pos rfl⟩
    have : pLk (hsz h) 1 0 k = none := by
      unfold pLk
      cases hp : pM 0 k with
      | none => rfl
      | some j => show (if j < 1 then some (j + hsz h) else none) = none; rw [if_neg (by have := (pM_inv hp).2.2; omega)]
    rw [this]; exact if_pos rfl
  generalize nw h 7 52 = g at S
  generalize em : hsz h = m at S q
  have q2 : ∀ g, MoS h g m 36 36 Z7 → R none g := fun g' S' => q g' S'.ref S'.2.2.1 (by have := S'.1; omega) (by have := S'.2.1; omega)
  refine B_Mo_init_0 ?_
  rw [z500]
  have T0 : MoS h (sI g m 0 0) m 1 1 Z1 := S.sI (a := 0) (by decide) (by omega)
  have hz' : hsz h + 40 ≤ lim.1 := by omega
  refine ⟨S.k7 (by decide), by decide, by decide, T0.z (by decide) hz', T0.u (by decide) (by decide) hu, ?_⟩
  generalize sI g m 0 0 = g0 at T0
  intro h1
  have S1 : MoS h h1 m 2 1 Z1 := T0.nw (by decide) rfl rfl (fun k => rfl) (by decide)
  clear_value h1
  have T1 : MoS h (sP h1 m 1 (some (hsz g0))) m 2 2 Z1 := S1.sP (by decide) rfl (by rw [T0.1])
  refine ⟨S1.k7 (by decide), by decide, by decide, T1.z (by decide) hz', T1.u (by decide) (by decide) hu, ?_⟩
  generalize sP h1 m 1 (some (hsz g0)) = g1 at T1
  intro h2
  have S2 : MoS h h2 m 3 2 Z1 := T1.nw (by decide) rfl rfl (fun k => rfl) (by decide)
  clear_value h2
  refine ⟨S2.k7 (by decide), ?_⟩
  intro h3
  have S3 : MoS h h3 m 3 3 Z1 := S2.sP (by decide) rfl (by rw [T1.1])
  clear_value h3
  refine ⟨by decide, by decide, S3.z (by decide) hz', S3.u (by decide) (by decide) hu, S3.k7n (by decide), ?_⟩
  intro h4
  have S4 : MoS h h4 m 4 4 Z1 := S3.al (by decide) rfl rfl (fun k => rfl) (by decide) rfl
  clear_value h4
  refine ⟨by decide, by decide, S4.z (by decide) hz', S4.u (by decide) (by decide) hu, S4.k7n (by decide), ?_⟩
  intro h5
  have S5 : MoS h h5 m 5 5 Z1 := S4.al (by decide) rfl rfl (fun k => rfl) (by decide) rfl
  clear_value h5
  refine ⟨by decide, by decide, S5.z (by decide) hz', S5.u (by decide) (by decide) hu, S5.k7n (by decide), ?_⟩
  intro h6
  have S6 : MoS h h6 m 6 6 Z1 := S5.al (by decide) rfl rfl (fun k => rfl) (by decide) rfl
  clear_value h6
  refine ⟨by decide, by decide, S6.z (by decide) hz', S6.u (by decide) (by decide) hu, S6.k7n (by decide), ?_⟩
  exact Mo_63 (S6.al (by decide) rfl rfl (fun k => rfl) (by decide) rfl) hz' hu q2
end MINI2
