/-! ===== the class's addFilter ===== -/
section ADDD
variable {H H' h : AHp} {A : Nat → Prop} {c F a : Nat} {nf : Nat} {FL : Nat → List SP} {NB : Nat → Int32} {fa : Nat → Nat} {lim : Nat × Nat} {d : Nat} {R : RT} {X : XT} {L : List SP} {x y u : Int32}
theorem FA.keepA (Y : FA H c F FL NB fa nf) (k : Keep H H' A) (e1 : hI H' c 2 = hI H c 2) (e2 : hP H' c 1 = hP H c 1) (hA : ∀ a, A a → (∀ f, f < nf → fa f ≠ a) ∧ hk H a ≠ 3 ∧ hk H a ≠ 11) : FA H' c F FL NB fa nf := by
  obtain ⟨y1, y2, ⟨p1, p2, p3, p4, p5⟩, y4, y5⟩ := Y
  have kF := k.2 F p2
  have cF := kF.2.2 (fun z => (hA F z).2.2 p3)
  refine ⟨y1, e1.trans y2, ⟨e2.trans p1, Nat.lt_of_lt_of_le p2 k.1, kF.1.trans p3, kF.2.1.trans p4, fun f hf => by rw [cF.2.1]; exact p5 f hf⟩, fun f hf => ?_, y5⟩
  obtain ⟨h1, h2, h3, h4⟩ := y4 f hf
  have kf := k.2 (fa f) h1
  have cf := kf.2.2 (fun z => (hA _ z).1 f hf rfl)
  exact ⟨Nat.lt_of_lt_of_le h1 k.1, kf.1.trans h2, by rw [cf.2.1]; exact SCh.keep k (fun a z => (hA a z).2.1) h3, by rw [cf.1]; exact h4⟩
theorem wf_refs {f : Nat} : ∀ {L : List SP} {n : Nat}, wf f L n → ∀ s, s ∈ L → s.1 = 2 → ∃ r, r < f ∧ s.2.1 = nI r := by
  intro L
  induction L with
  | nil => intro n _ s h; cases h
  | cons s' L ih =>
    intro n hw s hs h2
    rcases List.mem_cons.mp hs with rfl | hs
    · rcases hw with ⟨h1 | h1 | ⟨-, r, hr, e⟩, -⟩ | ⟨h1, -⟩ | ⟨h1 | h1, -⟩
      · rw [h1] at h2; cases h2
      · rw [h1] at h2; cases h2
      · exact ⟨r, hr, e⟩
      · rw [h1] at h2; cases h2
      · rw [h1] at h2; cases h2
      · rw [h1] at h2; cases h2
    · rcases hw with ⟨-, -, h⟩ | ⟨-, -, h⟩ | ⟨-, -, h⟩ <;> exact ih h s hs h2
/-- what the bits of needed filters hold, but for those that the rest L refers to -/
def NBP (FL : Nat → List SP) (nf : Nat) (P : List SP) (w : Int32) : Prop := bA w nf = true ∧ (∀ i, bA w i = true → i ≤ nf) ∧ (∀ i, i < nf → bA w i = true → ∀ r, r < i → refd (FL i) r → bA w r = true) ∧ ∀ r, r < nf → refd P r → bA w r = true
theorem C_af32 (hc : hk h c = 6) (hcz : c < hsz h) (Y : FA h c F FL NB fa nf) (hn : nf < 8) (hd : 0 < d) (ka : hk h a = 1) (haz : a < hsz h) (hfr : ∀ f, f < nf → fa f ≠ a) (q : ∀ g w, Fr h g (fun x => x = a) → hP g = hP h → hI g a 2 = w → NBP FL nf L w → WP lim d j_It_addFilter 32 [some (vr (some c)), some (vr (some a)), some (vi (nI nf)), some (vr none)] [] g R X) (hw : ∀ s, s ∈ L → s.1 = 2 → ∃ r, r < nf ∧ s.2.1 = nI r) : ∀ (S P : List SP) (o : Option Nat) (g : AHp) (w : Int32), L = P ++ S → Fr h g (fun x => x = a) → hP g = hP h → hI g a 2 = w → NBP FL nf P w → SCh g o S → WP lim d j_It_addFilter 32 [some (vr (some c)), some (vr (some a)), some (vi (nI nf)), some (vr o)] [] g R X := by
  intro S
  induction S with
  | nil =>
    intro P o g w e fr ep ew nb sc
    rw [show o = none from sc]
    rw [List.append_nil] at e
    exact q g w fr ep ew (e ▸ nb)
  | cons s S ih =>
    intro P o g w e fr ep ew nb sc
    obtain ⟨b, eo, hb, kb, hv, hn2⟩ := sc
    subst eo
    have hkg : hk g = hk h := fr.2.2.1
    have nab : b ≠ a := fun z => by rw [z, hkg, ka] at kb; cases kb
    have nac : c ≠ a := fun z => by rw [z, ka] at hc; cases hc
    refine B_It_addFilter_32 ?_
    rw [ifN_s]
    simp only [onR_s, hv.1, hv.2.1]
    refine ⟨kb, ?_⟩
    split
    · rename_i h2
      obtain ⟨r, hr, er⟩ := hw s (by rw [e]; exact List.mem_append_right _ List.mem_cons_self) h2
      have cc := fr.2.2.2.2 c nac
      have Yg : FA g c F FL NB fa nf := Y.keepA fr.keep (by rw [cc.1]) (by rw [cc.2.1]) (fun x hx => by
        rw [hx, ka]; exact ⟨hfr, by decide, by decide⟩)
      have Pr := Y.2.2.2.2 r hr
      rw [er]
      refine ⟨by rw [hkg]; exact ka, kb, all1.mpr (by rw [hkg]; exact hc), hd, C_needsOf (by rw [hkg]; exact hc) Yg hr (onI_v ⟨by rw [hkg]; exact ka, by rw [hk_sI]; exact kb, ?_⟩)⟩
      rw [ew]
      have fr2 : Fr g (sI g a 2 (w ||| NB r)) (fun x => x = a) := sI_fr
      refine ih (P ++ [s]) _ _ (w ||| NB r) (by rw [e]; simp) (fr.trans fr2) ep hI_at ?_ ?_
      · refine ⟨by rw [bA_or, nb.1]; rfl, fun i hi => ?_, fun i hin hi r' hr' hrf => ?_, fun r' hr' hrf => ?_⟩
        · rw [bA_or, Bool.or_eq_true] at hi
          rcases hi with hi | hi
          · exact nb.2.1 i hi
          · have := Pr.2.2.1 i hi; omega
        · rw [bA_or, Bool.or_eq_true] at hi
          rw [bA_or, Bool.or_eq_true]
          rcases hi with hi | hi
          · exact Or.inl (nb.2.2.1 i hin hi r' hr' hrf)
          · exact Or.inr (Pr.2.2.2 i hi r' hr' hrf)
        · rw [bA_or, Bool.or_eq_true]
          obtain ⟨s', hs', h2', e'⟩ := hrf
          rw [List.mem_append, List.mem_singleton] at hs'
          rcases hs' with hs' | hs'
          · exact Or.inl (nb.2.2.2 r' hr' ⟨s', hs', h2', e'⟩)
          · right
            rw [hs', er] at e'
            have : r = r' := nI_inj (by omega) (by omega) e'
            rw [← this]; exact Pr.2.1
      · rw [hP_sI]
        exact hn2.keep fr2.keep (fun x hx => by rw [hx, hkg, ka]; decide)
    · rename_i h2
      refine ⟨kb, ih (P ++ [s]) _ g w (by rw [e]; simp) fr ep ew ⟨nb.1, nb.2.1, nb.2.2.1, fun r' hr' hrf => ?_⟩ hn2⟩
      obtain ⟨s', hs', h2', e'⟩ := hrf
      rw [List.mem_append, List.mem_singleton] at hs'
      rcases hs' with hs' | hs'
      · exact nb.2.2.2 r' hr' ⟨s', hs', h2', e'⟩
      · rw [hs'] at h2'; exact (h2 h2').elim
theorem C_addFilter (hc : hk h c = 6) (hcz : c < hsz h) (Y : FA h c F FL NB fa nf) (hn : nf < 8) (hd : 0 < d) (ka : hk h a = 1) (haz : a < hsz h) (hfr : ∀ f, f < nf → fa f ≠ a) (sc : SCh h (hP h a 0) L) (hw : wf nf L 0) (q : ∀ g w, Fr h g (fun x => x = a ∨ x = c ∨ x = F) → FA g c F (up1 FL nf L) (up1 NB nf w) (up1 fa nf a) (nf + 1) → (∀ k, k ≠ 2 → hI g c k = hI h c k) → hP g c = hP h c → R (some (vi (nI nf))) g) : WM lim d j_It_addFilter [vr (some c), vr (some a)] h R X := by
  have nac : c ≠ a := fun z => by rw [z, ka] at hc; cases hc
  obtain ⟨h1, h2, h3, h4, h5⟩ := Y.2.2.1
  have naF : F ≠ a := fun z => by rw [z, ka] at h3; cases h3
  have ncF : c ≠ F := fun z => by rw [z, h3] at hc; cases hc
  refine B_It_addFilter_0 ?_
  simp only [h1, onR_s, h3, h4, Y.2.1]
  refine ⟨hc, ?_⟩
  rw [if_neg (by rw [i_lt, nI_toInt (by omega), i_0]; omega), if_pos (nI_lt (by omega) (by omega))]
  refine ⟨hc, by omega, ka, by rw [hk_sI]; exact ka, ?_⟩
  have fr0 : Fr h (sI h a 2 (1 <<< (nI nf &&& 31))) (fun x => x = a) := sI_fr
  rw [hP_sI]
  refine C_af32 (R := R) (X := X) (L := L) hc hcz Y hn hd ka haz hfr (fun g w fr ep ew nb => ?_) (wf_refs hw) L [] _ _ (1 <<< (nI nf &&& 31)) rfl fr0 hP_sI hI_at ?_ (sc.keep fr0.keep (fun x hx => by rw [hx, ka]; decide))
  · have hkg : hk g = hk h := fr.2.2.1
    have ccF := fr.2.2.2.2 F naF
    have ccc := fr.2.2.2.2 c nac
    refine B_It_addFilter_32 ?_
    rw [ifN_n, ep, h1]
    simp only [onR_s, hk_sP]
    rw [hkg, fr.2.2.2.1, h4, nI_clamp (by omega)]
    refine ⟨hc, h3, ix_nI hn (by decide), fun b e => by cases e; exact ka, hc, hc, trivial, ?_⟩
    have eI : hI (sP g F nf (some a)) c 2 = nI nf := by rw [hI_sP, ccc.1, Y.2.1]
    rw [eI, nI_1]
    have frt : Fr h (sI (sP g F nf (some a)) c 2 (nI (nf + 1))) (fun x => x = a ∨ x = c ∨ x = F) := ((fr.mono (fun x z => Or.inl z)).trans (sP_fr.mono (fun x z => Or.inr (Or.inr z)))).trans (sI_fr.mono (fun x z => Or.inr (Or.inl z)))
    have e2 : hI (sI (sP g F nf (some a)) c 2 (nI (nf + 1))) c 2 = nI (nf + 1) := hI_at
    have ek : ∀ k, k ≠ 2 → hI (sI (sP g F nf (some a)) c 2 (nI (nf + 1))) c k = hI h c k := fun k hk => by rw [hI_ne (by omega), hI_sP, ccc.1]
    have epc : hP (sI (sP g F nf (some a)) c 2 (nI (nf + 1))) c = hP h c := by rw [hP_sI, hP_sP, up2_off _ ncF, ep]
    have epF : ∀ k, hP (sI (sP g F nf (some a)) c 2 (nI (nf + 1))) F k = if k = nf then some a else hP h F k := by
      intro k
      rw [hP_sI, hP_sP]
      by_cases c : k = nf
      · rw [c, hPq_at, if_pos rfl]
      · rw [hPq_ne (fun z => c z.2), if_neg c, ep]
    have epo : ∀ x, x ≠ F → hP (sI (sP g F nf (some a)) c 2 (nI (nf + 1))) x = hP h x := fun x hx => by rw [hP_sI, hP_sP, up2_off _ hx, ep]
    have eio : ∀ x, x ≠ c → x ≠ a → hI (sI (sP g F nf (some a)) c 2 (nI (nf + 1))) x = hI h x := fun x hx hxa => by
      show up2 (hI (sP g F nf (some a))) c 2 _ x = _
      rw [up2_off _ hx, hI_sP, (fr.2.2.2.2 x hxa).1]
    have eia : hI (sI (sP g F nf (some a)) c 2 (nI (nf + 1))) a 2 = w := by rw [hI_ne (fun z => nac z.1.symm), hI_sP, ew]
    generalize sI (sP g F nf (some a)) c 2 (nI (nf + 1)) = g' at frt e2 ek epc epF epo eio eia
    have hkt : hk g' = hk h := frt.2.2.1
    have hst : hsz g' = hsz h := frt.1
    have sk : ∀ {o : Option Nat} {L : List SP}, SCh h o L → SCh g' o L := fun s => s.keep frt.keep (fun x hx => by
      rcases hx with e | e | e
      · rw [e, ka]; decide
      · rw [e, hc]; decide
      · rw [e, h3]; decide)
    refine q g' w frt ⟨by omega, e2, ⟨by rw [epc]; exact h1, by rw [hst]; exact h2, by rw [hkt]; exact h3, by rw [frt.2.2.2.1]; exact h4, fun f hf => ?_⟩, fun f hf => ?_, fun f hf => ?_⟩ ek epc
    · rw [epF]
      by_cases e : f = nf
      · rw [if_pos e, e, up1_on]
      · rw [if_neg e, up1_off _ e]; exact h5 f (by omega)
    · rw [hst, hkt]
      by_cases e : f = nf
      · rw [e, up1_on, up1_on, up1_on]
        exact ⟨haz, ka, by rw [epo a naF.symm]; exact sk sc, eia⟩
      · rw [up1_off _ e, up1_off _ e, up1_off _ e]
        obtain ⟨f1, f2, f3, f4⟩ := Y.2.2.2.1 f (by omega)
        have nfF : fa f ≠ F := fun z => by rw [z, h3] at f2; cases f2
        have nfc : fa f ≠ c := fun z => by rw [z, hc] at f2; cases f2
        exact ⟨f1, f2, by rw [epo _ nfF]; exact sk f3, by rw [eio _ nfc (hfr f (by omega))]; exact f4⟩
    · by_cases e : f = nf
      · rw [e, up1_on, up1_on]
        refine ⟨hw, nb.1, nb.2.1, fun i hi r hr hrf => ?_⟩
        have hin := nb.2.1 i hi
        by_cases ei : i = nf
        · rw [ei, up1_on] at hrf; exact nb.2.2.2 r (by omega) hrf
        · rw [up1_off _ ei] at hrf; exact nb.2.2.1 i (by omega) hi r hr hrf
      · obtain ⟨p1, p2, p3, p4⟩ := Y.2.2.2.2 f (by omega)
        rw [up1_off _ e, up1_off _ e]
        refine ⟨p1, p2, p3, fun i hi r hr hrf => ?_⟩
        have := p3 i hi
        rw [up1_off _ (by omega)] at hrf
        exact p4 i hi r hr hrf
  · refine ⟨by rw [bA_bit hn]; exact decide_eq_true rfl, fun i hi => ?_, fun i hin hi => ?_, fun r _ hrf => ?_⟩
    · rw [bA_bit hn] at hi; have := of_decide_eq_true hi; omega
    · rw [bA_bit hn] at hi; have := of_decide_eq_true hi; omega
    · obtain ⟨s', hs', -⟩ := hrf; cases hs'
end ADDD
