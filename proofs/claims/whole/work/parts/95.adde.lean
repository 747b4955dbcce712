/-! ===== the class's filters, added; letters ===== -/
/-- what a call leaves that adds a filter of steps L -/
def AFP (h g : AHp) (c F : Nat) (FL : Nat → List SP) (NB : Nat → Int32) (fa : Nat → Nat) (nf : Nat) (L : List SP) : Prop := ∃ w a, Keep h g (fun x => x = c ∨ x = F) ∧ hsz g ≤ hsz h + 70 ∧ hsu g ≤ hsu h + 400 ∧ FA g c F (up1 FL nf L) (up1 NB nf w) (up1 fa nf a) (nf + 1) ∧ (∀ k, k ≠ 2 → k ≠ 5 → hI g c k = hI h c k) ∧ hP g c = hP h c
section ADDE
variable {h h' : AHp} {A : Nat → Prop} {c t b F a : Nat} {na : Nat → Nat} {K : MT} {T : Tr} {N : Nat} {W : Int} {nf : Nat} {FL : Nat → List SP} {NB : Nat → Int32} {fa : Nat → Nat} {lim : Nat × Nat} {d : Nat} {R : RT} {X : XT} {L : List SP} {x y u : Int32} {cs : List Nat}
theorem C_addF (hc : hk h c = 6) (hcz : c < hsz h) (Y : FA h c F FL NB fa nf) (hn : nf < 8) (hd : 0 < d) (kp : Keep h h' (fun x => x = c)) (e1 : ∀ k, k ≠ 5 → hI h' c k = hI h c k) (e2 : hP h' c = hP h c) (ha : hsz h ≤ a) (C : FCh h' a cs L) (hw : wf nf L 0) (hz : hsz h' ≤ hsz h + 70) (hu : hsu h' ≤ hsu h + 400) (q : ∀ g, AFP h g c F FL NB fa nf L → hI g c 5 = hI h' c 5 → R (some (vi (nI nf))) g) : WM lim d j_It_addFilter [vr (some c), vr (some a)] h' R X := by
  have kc := kp.2 c hcz
  have Y' : FA h' c F FL NB fa nf := Y.keep kp (e1 2 (by decide)) (by rw [e2]) (fun x hx => by rw [hx, hc]; decide)
  refine C_addFilter (kc.1.trans hc) (Nat.lt_of_lt_of_le hcz kp.1) Y' hn hd C.1 C.2.1 (fun f hf z => ?_) (by rw [C.2.2.1]; exact C.2.2.2.2.1.sch) hw (fun g w fr Yg ek ep => q g ⟨w, a, ?_, by rw [fr.1]; exact hz, by rw [fr.2.1]; exact hu, Yg, fun k h2 h5 => (ek k h2).trans (e1 k h5), ep.trans e2⟩ (ek 5 (by decide)))
  · have := (Y.2.2.2.1 f hf).1; omega
  · refine fr.kp (kp.mono (fun x z => Or.inl z)) (fun x hx => ?_)
    rcases hx with e | e | e
    · exact Or.inl (by omega)
    · exact Or.inr (Or.inl e)
    · exact Or.inr (Or.inr e)
theorem NwS.snd {s : SP} (n : NwS h h' s) (C : FCh h a cs L) : FCh h' a cs L := by
  obtain ⟨n1, n2, n3, n4, n5⟩ := n
  obtain ⟨c1, c2, c3, c4, c5, c6⟩ := C
  have ka := n3.2 a c2
  have ca := ka.2.2 (fun z => z)
  refine ⟨ka.1.trans c1, by omega, by rw [ca.2.1]; exact c3, by rw [ca.2.1]; exact c4, c5.same (fun x hx => ?_), c6⟩
  have := c5.at x hx
  have kx := n3.2 x this.1
  exact ⟨by omega, kx.1, (kx.2.2 (fun z => z)).1, (kx.2.2 (fun z => z)).2.1⟩
/-- a new step, appended -/
theorem C_appNew {s : SP} {h0 : AHp} (kp : Keep h0 h A) (n : NwS h h' s) (C : FCh h a cs L) (ha : hsz h0 ≤ a) (hcs : ∀ x, x ∈ cs → hsz h0 ≤ x) (q : ∀ g, hsz g = hsz h + 1 → hsu g = hsu h + 5 → Keep h0 g A → FCh g a (cs ++ [hsz h]) (L ++ [s]) → (∀ x, x < hsz h → hI g x = hI h x) → (∀ x, x < hsz h → x ≠ a → x ∉ cs → hP g x = hP h x) → (∀ x, x ∈ cs ++ [hsz h] → hsz h0 ≤ x) → R none g) : WM lim d j_Fi_append [vr (some a), vr (some (hsz h))] h' R X := by
  have C' := n.snd C
  obtain ⟨n1, n2, n3, n4, n5⟩ := n
  have nd : hsz h ∉ cs := fun z => by have := (C.2.2.2.2.1.at _ z).1; omega
  have kp' : Keep h0 h' A := kp.trans (n3.mono (fun x z => z.elim))
  refine C_append C' (by omega) n4 n5 nd (fun g fr ei Cg => q g (by rw [fr.1]; exact n1) (by rw [fr.2.1]; exact n2) (fr.kp kp' (fun x hx => ?_)) Cg (fun x hx => ?_) (fun x hx h1 h2 => ?_) (fun x hx => ?_))
  · rcases hx with e | e | e
    · exact Or.inl (by omega)
    · exact Or.inl (by rw [e]; exact kp.1)
    · exact Or.inl (hcs x e)
  · rw [ei]; exact ((n3.2 x hx).2.2 (fun z => z)).1
  · rw [(fr.2.2.2.2 x (fun z => by
      rcases z with z | z | z
      · exact h1 z
      · omega
      · exact h2 z)).2.1]
    exact ((n3.2 x hx).2.2 (fun z => z)).2.1
  · rw [List.mem_append, List.mem_singleton] at hx
    rcases hx with hx | hx
    · exact hcs x hx
    · rw [hx]; exact kp.1
theorem C_rangeFilter (hd : 1 < d) (hz : hsz h + 2 ≤ lim.1) (hu : hsu h + 8 ≤ lim.2) (q : ∀ h' cs, hsz h' = hsz h + 2 → hsu h' = hsu h + 8 → Keep h h' (fun _ => False) → FCh h' (hsz h) cs [(0, x, y, u)] → R (some (vr (some (hsz h)))) h') : WM lim d j_It_rangeFilter [vi x, vi y, vi u] h R X := by
  refine B_It_rangeFilter_0 ⟨by omega, by omega, by omega, C_filI (fun h1 z1 u1 k1 C1 => ⟨by omega, C_rangeStep (by omega) (by omega) (by omega) (fun h2 n => onO_v ⟨all1.mpr (n.snd C1).1, by omega, ?_⟩)⟩)⟩
  exact C_appNew k1 n C1 (Nat.le_refl _) (fun x hx => by cases hx) (fun g z2 u2 k2 C2 _ _ _ => ⟨rfl, q g _ (by omega) (by omega) k2 C2⟩)
theorem C_overlappingFilter (hd : 1 < d) (hz : hsz h + 2 ≤ lim.1) (hu : hsu h + 8 ≤ lim.2) (q : ∀ h' cs, hsz h' = hsz h + 2 → hsu h' = hsu h + 8 → Keep h h' (fun _ => False) → FCh h' (hsz h) cs [(1, 0, 0, 0)] → R (some (vr (some (hsz h)))) h') : WM lim d j_It_overlappingFilter [] h R X := by
  refine B_It_overlappingFilter_0 ⟨by omega, by omega, by omega, C_filI (fun h1 z1 u1 k1 C1 => ⟨by omega, C_plainStep (by omega) (by omega) (by omega) (fun h2 n => onO_v ⟨all1.mpr (n.snd C1).1, by omega, ?_⟩)⟩)⟩
  exact C_appNew k1 n C1 (Nat.le_refl _) (fun x hx => by cases hx) (fun g z2 u2 k2 C2 _ _ _ => ⟨rfl, q g _ (by omega) (by omega) k2 C2⟩)
theorem C_room (hc : hk h c = 6) (h2 : hI h c 2 = nI nf) (h8 : nf ≤ 8) (q1 : nf < 8 → R none h) (q2 : nf = 8 → thr lim X 2 h) : WM lim d j_It_checkFilterRoom [vr (some c)] h R X := by
  refine B_It_checkFilterRoom_0 ⟨hc, ?_⟩
  rw [h2]
  have e8 : (8 : Int32).toInt = 8 := rfl
  split
  · rename_i e; rw [i_lt, nI_toInt (by omega), e8] at e; exact ⟨rfl, q1 (by omega)⟩
  · rename_i e; rw [i_lt, nI_toInt (by omega), e8] at e; exact ⟨rfl, q2 (by omega)⟩
theorem C_addRangeFilter (hc : hk h c = 6) (hcz : c < hsz h) (Y : FA h c F FL NB fa nf) (hd : 2 < d) (hz : hsz h + 2 ≤ lim.1) (hu : hsu h + 8 ≤ lim.2) (q1 : ¬ (ix x 4 ∧ y.toInt ≤ u.toInt) → thr lim X 1 h) (q2 : ix x 4 → y.toInt ≤ u.toInt → nf = 8 → thr lim X 2 h) (q3 : ix x 4 → y.toInt ≤ u.toInt → nf < 8 → ∀ g, AFP h g c F FL NB fa nf [(0, x, y, u)] → hI g c 5 = hI h c 5 → R (some (vi (nI nf))) g) : WM lim d j_It_addRangeFilter [vr (some c), vi x, vi y, vi u] h R X := by
  have e3 : (3 : Int32).toInt = 3 := rfl
  refine B_It_addRangeFilter_0 ?_
  split
  · rename_i e; rw [i_lt, i_0] at e; exact ⟨rfl, q1 (fun z => by have := ix_iff.mp z.1; omega)⟩
  · rename_i e; rw [i_lt, i_0] at e
    split
    · rename_i e2; rw [i_lt, e3] at e2; exact ⟨rfl, q1 (fun z => by have := ix_iff.mp z.1; omega)⟩
    · rename_i e2; rw [i_lt, e3] at e2
      have hx : ix x 4 := ix_iff.mpr (by omega)
      refine ⟨by omega, B_It_checkRange_0 ?_⟩
      split
      · rename_i e4; rw [i_lt] at e4; exact ⟨rfl, q1 (fun z => by omega)⟩
      · rename_i e4; rw [i_lt] at e4
        refine ⟨rfl, all1.mpr hc, by omega, C_room hc Y.2.1 Y.1 (fun h8 => ⟨by omega, C_rangeFilter (by omega) hz hu (fun h' cs z' u' k' C => onO_v ⟨all1.mpr ((k'.2 c hcz).1.trans hc), by omega, ?_⟩)⟩) (fun h8 => q2 hx (by omega) h8)⟩
        have cc := (k'.2 c hcz).2.2 (fun z => z)
        exact C_addF hc hcz Y h8 (by omega) (k'.mono (fun x z => z.elim)) (fun k _ => by rw [cc.1]) cc.2.1 (Nat.le_refl _) C (wf_one (Or.inl rfl)) (by omega) (by omega) (fun g P e5 => onI_v ⟨rfl, q3 hx (by omega) h8 g P (by rw [e5, cc.1])⟩)
theorem C_addHeavierFilter (O : RO h c t b na K T N W) (hcz : c < hsz h) (Y : FA h c F FL NB fa nf) (hd : 2 < d) (hz : hsz h + 2 ≤ lim.1) (hu : hsu h + 8 ≤ lim.2) (q1 : ¬ (ix x N ∧ K 4 x.toNatClampNeg < 2) → thr lim X 3 h) (q2 : ∀ i, i ∈ ino T → x = nI i → nf = 8 → thr lim X 2 h) (q3 : ∀ i, i ∈ ino T → x = nI i → nf < 8 → ∀ g, AFP h g c F FL NB fa nf [(0, 2, K 3 i + 1, 2147483647)] → hI g c 5 = hI h c 5 → R (some (vi (nI nf))) g) : WM lim d j_It_addHeavierFilter [vr (some c), vi x] h R X := by
  have hc := O.1.1
  refine B_It_addHeavierFilter_0 ⟨all1.mpr hc, by omega, C_present O (by omega) (fun i hi e => onO_v ⟨all1.mpr hc, by omega, C_room hc Y.2.1 Y.1 (fun h8 => ?_) (fun h8 => q2 i hi e h8)⟩) q1⟩
  rw [onR_s, O.2.1.we hi]
  refine ⟨O.2.1.kn hi, by omega, C_rangeFilter (by omega) hz hu (fun h' cs z' u' k' C => onO_v ⟨all1.mpr ((k'.2 c hcz).1.trans hc), by omega, ?_⟩)⟩
  have cc := (k'.2 c hcz).2.2 (fun z => z)
  exact C_addF hc hcz Y h8 (by omega) (k'.mono (fun x z => z.elim)) (fun k _ => by rw [cc.1]) cc.2.1 (Nat.le_refl _) C (wf_one (Or.inl rfl)) (by omega) (by omega) (fun g P e5 => onI_v ⟨rfl, q3 i hi e h8 g P (by rw [e5, cc.1])⟩)
theorem C_addCombinedFilter (hc : hk h c = 6) (hcz : c < hsz h) (Y : FA h c F FL NB fa nf) (hd : 2 < d) (hz : hsz h + 5 ≤ lim.1) (hu : hsu h + 23 ≤ lim.2) (q1 : ¬ (ix x 3 ∧ ix y nf ∧ ix u nf) → thr lim X 1 h) (q2 : ix x 3 → ix y nf → ix u nf → nf = 8 → thr lim X 2 h) (q3 : ∀ r1 r2, ix x 3 → r1 < nf → r2 < nf → y = nI r1 → u = nI r2 → nf < 8 → ∀ g, AFP h g c F FL NB fa nf (cmb x r1 r2) → hI g c 5 = hI h c 5 → R (some (vi (nI nf))) g) : WM lim d j_It_addCombinedFilter [vr (some c), vi x, vi y, vi u] h R X := by
  have e3 : (2 : Int32).toInt = 2 := rfl
  have h8 := Y.1
  refine B_It_addCombinedFilter_0 ?_
  split
  · rename_i e; rw [i_lt, i_0] at e; exact ⟨rfl, q1 (fun z => by have := ix_iff.mp z.1; omega)⟩
  · rename_i e; rw [i_lt, i_0] at e
    split
    · rename_i e2; rw [i_lt, e3] at e2; exact ⟨rfl, q1 (fun z => by have := ix_iff.mp z.1; omega)⟩
    · rename_i e2; rw [i_lt, e3] at e2
      have hx : ix x 3 := ix_iff.mpr (by omega)
      refine ⟨all1.mpr hc, by omega, C_chkF hc Y.2.1 Y.1 (fun i1 => ⟨all1.mpr hc, by omega, C_chkF hc Y.2.1 Y.1 (fun i2 => ⟨all1.mpr hc, by omega, C_room hc Y.2.1 Y.1 (fun hn => ?_) (fun hn => q2 hx i1 i2 hn)⟩) (fun n => q1 (fun z => n z.2.2))⟩) (fun n => q1 (fun z => n z.2.1))⟩
      obtain ⟨r1, hr1, rfl⟩ := ix_ex i1 (by omega)
      obtain ⟨r2, hr2, rfl⟩ := ix_ex i2 (by omega)
      refine ⟨by omega, by omega, by omega, C_filI (fun h1 z1 u1 k1 C1 => ⟨by omega, C_referenceStep (by omega) (by omega) (by omega) (fun h2 n2 => onO_v ⟨all1.mpr (n2.snd C1).1, by omega, ?_⟩)⟩)⟩
      refine C_appNew k1 n2 C1 (Nat.le_refl _) (fun x hx => by cases hx) (fun h3 z3 u3 k3 C3 _ _ s3 => ⟨by omega, C_referenceStep (by omega) (by omega) (by omega) (fun h4 n4 => onO_v ⟨all1.mpr (n4.snd C3).1, by omega, ?_⟩)⟩)
      refine C_appNew k3 n4 C3 (Nat.le_refl _) s3 (fun h5 z5 u5 k5 C5 _ _ s5 => ?_)
      have fin : ∀ (h' : AHp) (cs : List Nat), Keep h h' (fun _ => False) → hsz h' ≤ hsz h + 5 → hsu h' ≤ hsu h + 23 → FCh h' (hsz h) cs (cmb x r1 r2) → (∀ q ∈ [((0 : Int), (6 : Nat))], hk h' c = q.2) ∧ 0 < d ∧ WM lim (d - 1) j_It_addFilter [vr (some c), vr (some (hsz h))] h' (fun v22 h21 => onI v22 fun x23 => ([] : List AV) = [] ∧ R (some (vi x23)) h21) (X) := by
        intro h' cs k' z' u' C
        have cc := (k'.2 c hcz).2.2 (fun z => z)
        exact ⟨all1.mpr ((k'.2 c hcz).1.trans hc), by omega, C_addF hc hcz Y hn (by omega) (k'.mono (fun x z => z.elim)) (fun k _ => by rw [cc.1]) cc.2.1 (Nat.le_refl _) C (wf_cmb hr1 hr2) (by omega) (by omega) (fun g P e5 => onI_v ⟨rfl, q3 r1 r2 hx hr1 hr2 rfl rfl hn g P (by rw [e5, cc.1])⟩)⟩
      by_cases x2 : x = 2
      · have ec : cmb x r1 r2 = [(2, nI r1, 0, 0), (2, nI r2, 0, 0), (3, 0, 0, 0), (4, 0, 0, 0)] := by unfold cmb; rw [x2]; rfl
        rw [ec] at fin
        rw [if_pos x2]
        refine ⟨by omega, C_plainStep (by omega) (by omega) (by omega) (fun h6 n6 => onO_v ⟨all1.mpr (n6.snd C5).1, by omega, ?_⟩)⟩
        refine C_appNew k5 n6 C5 (Nat.le_refl _) s5 (fun h7 z7 u7 k7 C7 _ _ s7 => ?_)
        rw [if_neg (by rw [x2]; decide)]
        refine ⟨by omega, C_plainStep (by omega) (by omega) (by omega) (fun h8 n8 => onO_v ⟨all1.mpr (n8.snd C7).1, by omega, ?_⟩)⟩
        exact C_appNew k7 n8 C7 (Nat.le_refl _) s7 (fun h9 z9 u9 k9 C9 _ _ s9 => fin h9 _ k9 (by omega) (by omega) C9)
      · rw [if_neg x2]
        by_cases x1 : x = 1
        · have ec : cmb x r1 r2 = [(2, nI r1, 0, 0), (2, nI r2, 0, 0), (5, 0, 0, 0)] := by unfold cmb; rw [x1]; rfl
          rw [ec] at fin
          rw [if_pos x1]
          refine ⟨by omega, C_plainStep (by omega) (by omega) (by omega) (fun h8 n8 => onO_v ⟨all1.mpr (n8.snd C5).1, by omega, ?_⟩)⟩
          exact C_appNew k5 n8 C5 (Nat.le_refl _) s5 (fun h9 z9 u9 k9 C9 _ _ s9 => fin h9 _ k9 (by omega) (by omega) C9)
        · rw [if_neg x1]
          have x0 : x = 0 := by
            rw [i_eq, i_0]
            rw [i_eq, i_1] at x1
            rw [i_eq, e3] at x2
            omega
          have ec : cmb x r1 r2 = [(2, nI r1, 0, 0), (2, nI r2, 0, 0), (4, 0, 0, 0)] := by unfold cmb; rw [x0]; rfl
          rw [ec] at fin
          refine ⟨by omega, C_plainStep (by omega) (by omega) (by omega) (fun h8 n8 => onO_v ⟨all1.mpr (n8.snd C5).1, by omega, ?_⟩)⟩
          exact C_appNew k5 n8 C5 (Nat.le_refl _) s5 (fun h9 z9 u9 k9 C9 _ _ s9 => fin h9 _ k9 (by omega) (by omega) C9)
/-- the letters that were fed -/
def TX (h : AHp) (c tx m : Nat) (K : MT) (n : Nat) : Prop := hP h c 4 = some tx ∧ tx < hsz h ∧ ¬ inR m tx ∧ hk h tx = 8 ∧ hLen h tx = 60 ∧ hP h c 0 ≠ some tx ∧ n ≤ 60 ∧ hI h c 5 = nI n ∧ K 0 35 = nI n ∧ ∀ k, k < n → hI h tx k = K 23 k ∧ ix (K 23 k) 256
theorem C_feed {tx m n : Nat} (hc : hk h c = 6) (Y : TX h c tx m K n) (q1 : ¬ ix x 256 → thr lim X 1 h) (q2 : ix x 256 → n = 60 → thr lim X 2 h) (q3 : ix x 256 → n < 60 → ∀ g, Fr h g (fun z => z = tx ∨ z = c) → hP g c = hP h c → (∀ k, k ≠ 5 → hI g c k = hI h c k) → hI g c 5 = nI (n + 1) → (∀ k, hI g tx k = if k = n then x else hI h tx k) → R (some (vi (nI (n + 1)))) g) : WM lim d j_It_feed [vr (some c), vi x] h R X := by
  obtain ⟨t1, t2, t3, t4, t5, t6, t7, t8, t9, t10⟩ := Y
  have e3 : (255 : Int32).toInt = 255 := rfl
  have nct : c ≠ tx := fun z => by rw [z, t4] at hc; cases hc
  refine B_It_feed_0 ?_
  split
  · rename_i e; rw [i_lt, i_0] at e; exact ⟨rfl, q1 (fun z => by have := ix_iff.mp z; omega)⟩
  · rename_i e; rw [i_lt, i_0] at e
    split
    · rename_i e2; rw [i_lt, e3] at e2; exact ⟨rfl, q1 (fun z => by have := ix_iff.mp z; omega)⟩
    · rename_i e2; rw [i_lt, e3] at e2
      have hx : ix x 256 := ix_iff.mpr (by omega)
      simp only [t1, onR_s, t4, t5, t8, hk_sI]
      refine ⟨hc, ?_⟩
      rw [if_neg (by rw [i_lt, nI_toInt (by omega), i_0]; omega)]
      refine ⟨hc, hc, by omega, ?_⟩
      by_cases e5 : n = 60
      · rw [if_neg (nI_nlt (by omega) (by omega))]; exact ⟨trivial, q2 hx e5⟩
      · rw [if_pos (nI_lt (by omega) (by omega)), nI_clamp (by omega)]
        have e6 : hI (sI h tx n x) c 5 = nI n := by rw [hI_ne (fun z => nct z.1), t8]
        rw [e6, nI_1]
        refine ⟨hc, hc, trivial, ix_nI (by omega) (by decide), hc, hc, hc, trivial, ?_⟩
        rw [hI_at]
        refine q3 hx (by omega) _ ((sI_fr.mono (fun x z => Or.inl z)).trans (sI_fr.mono (fun x z => Or.inr z))) rfl (fun k hk => by rw [hI_ne (by omega), hI_ne (fun z => nct z.1)]) hI_at (fun k => ?_)
        rw [hI_ne (fun z => nct z.1.symm)]
        by_cases ek : k = n
        · rw [ek, hI_at, if_pos rfl]
        · rw [hI_ne (fun z => ek z.2), if_neg ek]
end ADDE
