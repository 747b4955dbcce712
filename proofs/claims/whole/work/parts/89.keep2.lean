/-! ===== filters and cursors stay ===== -/
section KEEP2
variable {H H' : AHp} {A : Nat → Prop} {c F Cs : Nat} {K K' : MT} {N N' nf nf' : Nat} {FL : Nat → List SP} {NB : Nat → Int32} {fa cu : Nat → Nat}
theorem SCh.keep (k : Keep H H' A) (hA : ∀ a, A a → hk H a ≠ 3) : ∀ {L : List SP} {o : Option Nat}, SCh H o L → SCh H' o L := by
  intro L
  induction L with
  | nil => intro o h; exact h
  | cons s L ih =>
    rintro o ⟨a, e, ha, ka, hv, hn⟩
    have kk := k.2 a ha
    have cc := kk.2.2 (fun z => hA a z ka)
    exact ⟨a, e, Nat.lt_of_lt_of_le ha k.1, kk.1.trans ka, by rw [cc.1]; exact hv, by rw [cc.2.1]; exact ih hn⟩
theorem FA.keep (Y : FA H c F FL NB fa nf) (k : Keep H H' A) (e1 : hI H' c 2 = hI H c 2) (e2 : hP H' c 1 = hP H c 1) (hA : ∀ a, A a → hk H a ≠ 1 ∧ hk H a ≠ 3 ∧ hk H a ≠ 11) : FA H' c F FL NB fa nf := by
  obtain ⟨y1, y2, ⟨p1, p2, p3, p4, p5⟩, y4, y5⟩ := Y
  have kF := k.2 F p2
  have cF := kF.2.2 (fun z => (hA F z).2.2 p3)
  refine ⟨y1, e1.trans y2, ⟨e2.trans p1, Nat.lt_of_lt_of_le p2 k.1, kF.1.trans p3, kF.2.1.trans p4, fun f hf => by rw [cF.2.1]; exact p5 f hf⟩, fun f hf => ?_, y5⟩
  obtain ⟨h1, h2, h3, h4⟩ := y4 f hf
  have kf := k.2 (fa f) h1
  have cf := kf.2.2 (fun z => (hA _ z).1 h2)
  exact ⟨Nat.lt_of_lt_of_le h1 k.1, kf.1.trans h2, by rw [cf.2.1]; exact SCh.keep k (fun a z => (hA a z).2.1) h3, by rw [cf.1]; exact h4⟩
theorem CU.keep (U : CU H c Cs cu K N nf) (k : Keep H H' A) (e1 : hP H' c 3 = hP H c 3) (hA : ∀ a, A a → hk H a ≠ 0 ∧ hk H a ≠ 10) (hN : N ≤ N') (hnf : nf ≤ nf') (h24 : ∀ i, K' 24 i = K 24 i) (h25 : ∀ i, K' 25 i = K 25 i) (h26 : ∀ i, K' 26 i = K 26 i) (h12 : ∀ i, i < N → K' 1 i = K 1 i ∧ K' 2 i = K 2 i) : CU H' c Cs cu K' N' nf' := by
  obtain ⟨⟨p1, p2, p3, p4⟩, u2, u3, u4⟩ := U
  have kF := k.2 Cs p2
  have cF := kF.2.2 (fun z => (hA Cs z).2 p3)
  refine ⟨⟨e1.trans p1, Nat.lt_of_lt_of_le p2 k.1, kF.1.trans p3, kF.2.1.trans p4⟩, fun j hj => ?_, u3, fun j hj => ?_⟩
  · obtain ⟨a1, a2, a3, a4⟩ := u2 j hj
    have kj := k.2 (cu j) a2
    have cj := kj.2.2 (fun z => (hA _ z).1 a3)
    exact ⟨by rw [cF.2.1]; exact a1, Nat.lt_of_lt_of_le a2 k.1, kj.1.trans a3, by rw [cj.1, h24]; exact a4⟩
  · obtain ⟨a1, a2, a3, a4⟩ := u2 j hj
    have kj := k.2 (cu j) a2
    have cj := kj.2.2 (fun z => (hA _ z).1 a3)
    rw [h24]
    rcases u4 j hj with h | ⟨h, f, lst, f1, f2, f3, f4, L⟩
    · exact Or.inl h
    · refine Or.inr ⟨h, f, lst, by omega, by rw [cj.1]; exact f2, by rw [h25]; exact f3, by rw [h26]; exact f4, ?_, ?_⟩
      · rw [cj.1]; exact L.1
      · intro i hi
        obtain ⟨l1, l2, l3, l4, l5⟩ := L.2 i hi
        rw [cj.1, (h12 i l1).1, (h12 i l1).2]
        exact ⟨by omega, l2, l3, l4, l5⟩
/-- closed cursors -/
theorem CU.shut (U : CU H c Cs cu K N nf) (k : Keep H H' A) (e1 : hP H' c 3 = hP H c 3) (hA : ∀ a, A a → hk H a ≠ 10) (h0 : ∀ j, j < 4 → hI H' (cu j) 0 = 0 ∧ K' 24 j = 0) : CU H' c Cs cu K' N' nf' := by
  obtain ⟨⟨p1, p2, p3, p4⟩, u2, u3, u4⟩ := U
  have kF := k.2 Cs p2
  have cF := kF.2.2 (fun z => (hA Cs z) p3)
  refine ⟨⟨e1.trans p1, Nat.lt_of_lt_of_le p2 k.1, kF.1.trans p3, kF.2.1.trans p4⟩, fun j hj => ?_, u3, fun j hj => Or.inl (h0 j hj).2⟩
  obtain ⟨a1, a2, a3, a4⟩ := u2 j hj
  have kj := k.2 (cu j) a2
  exact ⟨by rw [cF.2.1]; exact a1, Nat.lt_of_lt_of_le a2 k.1, kj.1.trans a3, by rw [(h0 j hj).1, (h0 j hj).2]⟩
/-- one cursor is set anew -/
theorem CU.set (U : CU H c Cs cu K N nf) {q f : Nat} {lst : Option Nat} (hq : q < 4) (k : Keep H H' (fun a => a = cu q)) (hcz : c < hsz H) (hc : hk H c = 6) (hf : f < nf) (h0 : hI H' (cu q) 0 = 1) (h1 : hI H' (cu q) 1 = nI f) (L : CL H' (cu q) K' N lst) (h24 : ∀ i, K' 24 i = if i = q then 1 else K 24 i) (h25 : ∀ i, K' 25 i = if i = q then nI f else K 25 i) (h26 : ∀ i, K' 26 i = if i = q then idI lst else K 26 i) (h12 : ∀ i, i < N → K' 1 i = K 1 i ∧ K' 2 i = K 2 i) : CU H' c Cs cu K' N nf := by
  obtain ⟨⟨p1, p2, p3, p4⟩, u2, u3, u4⟩ := U
  have kq := (u2 q hq).2.2.1
  have kF := k.2 Cs p2
  have cF := kF.2.2 (fun z => by rw [z, kq] at p3; cases p3)
  have cc := (k.2 c hcz).2.2 (fun z => by rw [z, kq] at hc; cases hc)
  refine ⟨⟨by rw [cc.2.1]; exact p1, Nat.lt_of_lt_of_le p2 k.1, kF.1.trans p3, kF.2.1.trans p4⟩, fun j hj => ?_, u3, fun j hj => ?_⟩
  · obtain ⟨a1, a2, a3, a4⟩ := u2 j hj
    have kj := k.2 (cu j) a2
    refine ⟨by rw [cF.2.1]; exact a1, Nat.lt_of_lt_of_le a2 k.1, kj.1.trans a3, ?_⟩
    rw [h24]
    by_cases e : j = q
    · rw [if_pos e, e]; exact h0
    · rw [if_neg e, (kj.2.2 (fun z => e (u3 j q hj hq z))).1]; exact a4
  · obtain ⟨a1, a2, a3, a4⟩ := u2 j hj
    have kj := k.2 (cu j) a2
    rw [h24, h25, h26]
    by_cases e : j = q
    · rw [if_pos e, if_pos e, if_pos e, e]
      exact Or.inr ⟨rfl, f, lst, hf, h1, rfl, rfl, L⟩
    · rw [if_neg e, if_neg e, if_neg e]
      have cj := kj.2.2 (fun z => e (u3 j q hj hq z))
      rcases u4 j hj with h | ⟨h, f, lst, f1, f2, f3, f4, L⟩
      · exact Or.inl h
      · refine Or.inr ⟨h, f, lst, by omega, by rw [cj.1]; exact f2, f3, f4, ?_, ?_⟩
        · rw [cj.1]; exact L.1
        · intro i hi
          obtain ⟨l1, l2, l3, l4, l5⟩ := L.2 i hi
          rw [cj.1, (h12 i l1).1, (h12 i l1).2]
          exact ⟨by omega, l2, l3, l4, l5⟩
end KEEP2
