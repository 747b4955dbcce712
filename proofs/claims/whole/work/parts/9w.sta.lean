/-! ===== the law's start ===== -/
theorem CV.emp2 {g : AHp} {t b : Nat} {na : Nat → Nat} {K : MT} {D : Nat → Prop} (hD : ∀ i, ¬ D i) (h : hk g t = 5 ∧ t < hsz g ∧ hP g t 0 = some b ∧ hk g b = 12 ∧ hLen g b = 500 ∧ b < hsz g) (hp : ∀ k, 1 ≤ k → k ≤ 3 → hP g t k = none) (k1 : K 0 9 = -1 ∧ K 43 0 = -1 ∧ K 43 1 = -1) (hi : hI g t 4 = K 0 10 ∧ hI g t 5 = K 0 11 ∧ hI g t 6 = K 43 2 ∧ hI g t 7 = K 0 13 ∧ hI g t 8 = K 0 14 ∧ hI g t 9 = K 0 15) : CV g g t b na D K := by
  refine ⟨h, fun i hi => (hD i hi).elim, fun k a b => ?_, fun k a b => ?_, fun i j hi => (hD i hi).elim, Fr.refl⟩
  · have e : K (trR k) (trF k) = -1 := by
      have : k = 1 ∨ k = 2 ∨ k = 3 := by omega
      rcases this with rfl | rfl | rfl
      · exact k1.1
      · exact k1.2.1
      · exact k1.2.2
    rw [e, oa_n]; exact ⟨hp k a b, Or.inl rfl⟩
  · have : k = 4 ∨ k = 5 ∨ k = 6 ∨ k = 7 ∨ k = 8 ∨ k = 9 := by omega
    rcases this with rfl | rfl | rfl | rfl | rfl | rfl
    · exact hi.1
    · exact hi.2.1
    · exact hi.2.2.1
    · exact hi.2.2.2.1
    · exact hi.2.2.2.2.1
    · exact hi.2.2.2.2.2
/-- the memory at the start, with what the class holds beside it -/
def KSt : MT := mixM Z7 (fun _ i => if i < 2 then -1 else 0)
theorem KSt_lo {r i : Nat} (h : r < 36) : KSt r i = Z7 r i := mixM_lo h
def Tr0 : Tr := .leaf ()
theorem TIs0 : TI KSt Tr0 0 999 := by
  refine ⟨by rw [KSt_lo (by decide), nI_0]; rfl, by omega, ⟨⟨trivial, ?_⟩, rfl, ⟨0, rfl⟩, rfl⟩, List.Pairwise.nil, fun x => ⟨fun z => (by cases z), fun z => by omega⟩, fun x hx => by omega, fun x hx => by omega, fun x hx => by omega, ?_, by decide, ?_, ?_, fun i => Or.inl ?_⟩
  · show KSt 0 9 = -1
    rw [KSt_lo (by decide)]; rfl
  · rw [KSt_lo (by decide)]; rfl
  · rw [KSt_lo (by decide)]; rfl
  · rw [KSt_lo (by decide)]; decide
  · rw [KSt_lo (by decide)]; rfl
theorem RFst0 : RFs KSt FL3 3 := by
  refine ⟨by omega, by rw [KSt_lo (by decide)]; rfl, fun f hf => ?_⟩
  have : f = 0 ∨ f = 1 ∨ f = 2 := by omega
  rcases this with rfl | rfl | rfl
  · exact ⟨wf_one (Or.inl rfl), Or.inl ⟨by rw [KSt_lo (by decide)]; rfl, rfl⟩⟩
  · exact ⟨wf_one (Or.inl rfl), Or.inr (Or.inl ⟨by rw [KSt_lo (by decide)]; rfl, rfl⟩)⟩
  · exact ⟨wf_one (Or.inr rfl), Or.inr (Or.inr (Or.inl ⟨by rw [KSt_lo (by decide)]; rfl, rfl⟩))⟩
theorem start_LI {h0 h1 g g2 : AHp} {c sc L : Nat} {xs : Nat → Int32} (hs : sc < hsz h0 ∧ hk h0 sc = 14 ∧ hLen h0 sc = L ∧ ∀ k, hI h0 sc k = xs k) (u0 : hsu h0 = 0) (ec : c = hsz h0) (k1 : Keep h0 h1 (fun _ => False)) (z1 : hsz h1 = hsz h0 + 1) (u1 : hsu h1 = hsu h0 + 8) (I : ItI h1 g c) (r : RefAt g2 (hsz g) Z7) (k2 : Keep g g2 (fun _ => False)) (z2 : hsz g2 = hsz g + 36) (u2 : hsu g2 ≤ hsu g + 80000) : LI (nw g2 13 1) c (hsz g) (hsz g2) sc L xs (hsz h0) 0 := by
  obtain ⟨a, F, NB, fa, Cs, cu, tx, t, b, i1, i2, i3, i4, i5, i6, i7, i8, i9, i10, i11, i12, i13, i14⟩ := I
  have k3 : Keep g (nw g2 13 1) (fun _ => False) := k2.trans nw_keep
  have zH : hsz (nw g2 13 1) = hsz g2 + 1 := rfl
  have uH : hsu (nw g2 13 1) = hsu g2 + 1 := rfl
  have koH : hk (nw g2 13 1) (hsz g2) = 13 := up1_on _
  have loH : hLen (nw g2 13 1) (hsz g2) = 1 := up1_on _
  have rH : RefAt (nw g2 13 1) (hsz g) Z7 := r.keep (nw_keep (A := fun _ => False)) (fun a z => z.elim)
  generalize nw g2 13 1 = H at k3 zH uH koH loH rH
  have c1 : c < hsz h1 := by omega
  have cg : c < hsz g := Nat.lt_of_lt_of_le c1 i1.1
  have cc := (k3.2 c cg).2.2 (fun z => z)
  have e : ∀ r i, r < 36 → KSt r i = Z7 r i := fun r i h => KSt_lo h
  have Rg : RTr g t b (fun _ => 0) KSt Tr0 0 999 := by
    refine ⟨CV.emp2 (fun i z => (by cases z)) i11 i12 ⟨(e 0 9 (by decide)).trans rfl, rfl, rfl⟩ ⟨?_, ?_, ?_, ?_, ?_, ?_⟩, TIs0, ⟨rfl, rfl, trivial⟩, fun i _ => ⟨fun z => (by cases z), fun _ => i14 i⟩, rfl⟩
    · rw [i13.1, e 0 10 (by decide)]; rfl
    · rw [i13.2.1, e 0 11 (by decide)]; rfl
    · rw [i13.2.2.1]; rfl
    · rw [i13.2.2.2.1, e 0 13 (by decide)]; rfl
    · rw [i13.2.2.2.2.1, e 0 14 (by decide)]; rfl
    · rw [i13.2.2.2.2.2, e 0 15 (by decide)]; rfl
  have TH : TBL H c a := i4.keep k3 (fun z => z) (by rw [cc.2.1])
  have b1 := i4.2.1
  have b2 := i9.2.1
  have RH := Rg.keep k3 (fun a z => z.elim)
  refine ⟨t, b, fun _ => 0, KSt, Tr0, 0, 999, F, FL3, NB, fa, 3, Cs, cu, tx, 0, RH.ro ((k3.2 c cg).1.trans i10.1) (by rw [cc.2.1]; exact i10.2.1), by omega, ?_, ⟨⟨a, TH.1, TH.2.1, fun z => ?_, TH.2.2.1, TH.2.2.2.1, TH.2.2.2.2⟩, i5.keep k3 (by rw [cc.1]) (by rw [cc.2.1]) (fun a z => z.elim), RFst0, ⟨⟨by rw [cc.2.1]; exact i6.1, Nat.lt_of_lt_of_le i6.2.1 k3.1, (k3.2 Cs i6.2.1).1.trans i6.2.2.1, (k3.2 Cs i6.2.1).2.1.trans i6.2.2.2⟩, fun k hk4 => ?_, i8, fun k hk4 => Or.inl ((e 24 k (by decide)).trans rfl)⟩, ⟨by rw [cc.2.1]; exact i9.1, Nat.lt_of_lt_of_le i9.2.1 k3.1, fun z => ?_, (k3.2 tx i9.2.1).1.trans i9.2.2.2.1, (k3.2 tx i9.2.1).2.1.trans i9.2.2.2.2.1, ?_, by omega, by rw [cc.1, nI_0]; exact i9.2.2.2.2.2, by rw [e 0 35 (by decide), nI_0]; rfl, fun k hk => by omega⟩, ?_, ⟨by omega, koH, loH⟩⟩, Or.inl ⟨(e 0 42 (by decide)).trans rfl, by rw [cc.2.1]; exact i10.2.2⟩, ⟨by omega, by omega⟩, by omega, by omega⟩
  · exact rH.mix
  · have := z.1; omega
  · have q := i7 k hk4
    have kq := k3.2 (cu k) q.2.1
    have kC := (k3.2 Cs i6.2.1).2.2 (fun z => z)
    exact ⟨by rw [kC.2.1]; exact q.1, Nat.lt_of_lt_of_le q.2.1 k3.1, kq.1.trans q.2.2.1, by rw [(kq.2.2 (fun z => z)).1, q.2.2.2, e 24 k (by decide)]; rfl⟩
  · have := z.1; omega
  · rw [cc.2.1, i4.1]; exact fun z => i9.2.2.1 (Option.some.inj z)
  · have s1 := k1.2 sc hs.1
    have s2 := i1.2 sc (by omega)
    have s3 := k3.2 sc (by have := i1.1; omega)
    have x1 := s1.2.2 (fun z => z)
    have x2 := s2.2.2 (by omega : sc ≠ c)
    have x3 := s3.2.2 (fun z => z)
    exact ⟨by have := i1.1; have := k3.1; omega, s3.1.trans (s2.1.trans (s1.1.trans hs.2.1)), s3.2.1.trans (s2.2.1.trans (s1.2.1.trans hs.2.2.1)), fun k => by rw [x3.1, x2.1, x1.1]; exact hs.2.2.2 k⟩
theorem hW_all (sz b L : Nat) (xs : Nat → Int32) (hL : L ≤ 2048) (hb : b < sz) : WP (sz + 601024, 7293034) 2000 300 0 (ent 300 [vr (some b)]) [] (hIni sz b L xs) (fun v _ => v = some (vi 1)) (fun _ _ => False) := by
  have s0 : b < hsz (hIni sz b L xs) ∧ hk (hIni sz b L xs) b = 14 ∧ hLen (hIni sz b L xs) b = L ∧ ∀ k, hI (hIni sz b L xs) b k = xs k := ⟨hb, if_pos rfl, rfl, fun _ => rfl⟩
  have z0 : hsz (hIni sz b L xs) = sz := rfl
  have u0 : hsu (hIni sz b L xs) = 0 := rfl
  show WM (sz + 601024, 7293034) 2000 j_La_law [vr (some b)] (hIni sz b L xs) (fun v _ => v = some (vi 1)) (fun _ _ => False)
  generalize hIni sz b L xs = h0 at s0 z0 u0
  have k1 : Keep h0 (nw h0 6 8) (fun _ => False) := nw_keep
  have z1 : hsz (nw h0 6 8) = hsz h0 + 1 := rfl
  have u1 : hsu (nw h0 6 8) = hsu h0 + 8 := rfl
  have c1 : hk (nw h0 6 8) (hsz h0) = 6 := up1_on _
  refine B_La_law_0 ⟨by show hsz h0 + 1 ≤ sz + 601024; omega, by show hsu h0 + 8 ≤ 7293034; omega, by decide, ?_⟩
  generalize nw h0 6 8 = h1 at k1 z1 u1 c1
  refine C_itInit c1 (by omega) (by decide) (by show hsz h1 + 300 ≤ sz + 601024; omega) (by show hsu h1 + 3000 ≤ 7293034; omega) (fun g I => ?_)
  have bz : hsz g ≤ hsz h1 + 300 := by obtain ⟨a, F, NB, fa, Cs, cu, tx, t, b, i1, i2, i3, -⟩ := I; exact i2
  have bu : hsu g ≤ hsu h1 + 3000 := by obtain ⟨a, F, NB, fa, Cs, cu, tx, t, b, i1, i2, i3, -⟩ := I; exact i3
  refine ⟨by show hsz g + 1 ≤ sz + 601024; omega, by show hsu g + 52 ≤ 7293034; omega, by decide, C_moInit (by show hsz g + 40 ≤ sz + 601024; omega) (by show hsu g + 80000 ≤ 7293034; omega) (fun g2 r k2 z2 u2 => ?_)⟩
  have e1 : (1 : Int32).toNatClampNeg = 1 := rfl
  rw [e1]
  refine ⟨by decide, by decide, by show hsz g2 + 1 ≤ sz + 601024; omega, by show hsu g2 + 1 ≤ 7293034; omega, ?_⟩
  have q := start_LI s0 u0 rfl k1 z1 u1 I r k2 z2 u2
  rw [← nI_0]
  exact law_loop (by decide) hL ⟨by show hsz h0 + 60000 ≤ sz + 601024; omega, by show 1100000 ≤ 7293034; omega⟩ (fun H => rfl) L 0 _ none none (by omega) (by omega) q
