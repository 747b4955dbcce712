/-! ===== texts of filters: the class's reader ===== -/
def PJ (h0 g : AHp) (A : Nat → Prop) (tx : Nat) (t8 : Nat → Int32) (n r a q : Nat) (cs ws : List Nat) (out W : List SP) : Prop :=
  Keep h0 g A ∧ (hsz h0 ≤ r ∧ hsz h0 ≤ a ∧ (∀ x, x ∈ cs ++ ws → hsz h0 ≤ x) ∧ (cs ++ ws).Nodup) ∧ (r < hsz g ∧ hk g r = 4 ∧ hP g r 0 = some tx ∧ hP g r 3 = some a ∧ hP g r 8 = ws.head?) ∧ FCh g a cs out ∧ LK g ws W ∧ (tx < hsz g ∧ hk g tx = 8 ∧ hLen g tx = 60 ∧ ∀ k, k < n → hI g tx k = t8 k) ∧ (hsz g ≤ hsz h0 + 2 + q ∧ hsu g ≤ hsu h0 + 12 + 5 * q)
def RI (g : AHp) (r n nf p : Nat) (due : Bool) (oc rf : Nat) : Prop := hI g r 1 = nI n ∧ hI g r 2 = nI nf ∧ hI g r 4 = nI p ∧ hI g r 5 = bi due ∧ hI g r 6 = nI oc ∧ hI g r 7 = nI rf
section RDC
variable {h0 g : AHp} {A : Nat → Prop} {tx : Nat} {t8 : Nat → Int32} {n r a q : Nat} {cs ws : List Nat} {out W : List SP} {nf p oc rf : Nat} {due : Bool} {lim : Nat × Nat} {d : Nat} {R : RT} {X : XT} {k x y u : Int32}
theorem PJ.kr (J : PJ h0 g A tx t8 n r a q cs ws out W) : hk g r = 4 := J.2.2.1.2.1
theorem PJ.ne (J : PJ h0 g A tx t8 n r a q cs ws out W) : a ≠ r ∧ tx ≠ r ∧ (∀ x, x ∈ cs → x ≠ r) ∧ (∀ x, x ∈ ws → x ≠ r) ∧ (∀ x, x ∈ ws → x ≠ a) := by
  have kr := J.kr
  obtain ⟨j1, j2, j3, j4, j5, j6, j7⟩ := J
  refine ⟨fun e => ?_, fun e => ?_, fun x hx e => ?_, fun x hx e => ?_, fun x hx e => ?_⟩
  · have := j4.1; rw [e, kr] at this; cases this
  · have := j6.2.1; rw [e, kr] at this; cases this
  · have := (j4.2.2.2.2.1.at x hx).2; rw [e, kr] at this; cases this
  · have := (j5.at x hx).2; rw [e, kr] at this; cases this
  · have := (j5.at x hx).2; rw [e, j4.1] at this; cases this
theorem PJ.sI (J : PJ h0 g A tx t8 n r a q cs ws out W) {i : Nat} {v : Int32} : PJ h0 (Jvm.Pilot.CIntervalTreeLaw_law_r9763_99fb55.sI g r i v) A tx t8 n r a q cs ws out W := by
  obtain ⟨n1, n2, n3, n4, n5⟩ := J.ne
  obtain ⟨j1, j2, j3, j4, j5, j6, j7⟩ := J
  have off : ∀ x, x ≠ r → hI (Jvm.Pilot.CIntervalTreeLaw_law_r9763_99fb55.sI g r i v) x = hI g x := fun x hx => up2_off _ hx
  refine ⟨sI_kp j1 (Or.inl j2.1), j2, j3, ?_, j5.same (fun x hx => ⟨(j5.at x hx).1, rfl, off x (n4 x hx), rfl⟩), ⟨j6.1, j6.2.1, j6.2.2.1, fun k hk => ?_⟩, j7⟩
  · obtain ⟨c1, c2, c3, c4, c5, c6⟩ := j4
    exact ⟨c1, c2, c3, c4, c5.same (fun x hx => ⟨(c5.at x hx).1, rfl, off x (n3 x hx), rfl⟩), c6⟩
  · rw [off tx n2]; exact j6.2.2.2 k hk
theorem PJ.mono {q' : Nat} (J : PJ h0 g A tx t8 n r a q cs ws out W) (h : q ≤ q') : PJ h0 g A tx t8 n r a q' cs ws out W := by
  obtain ⟨j1, j2, j3, j4, j5, j6, j7⟩ := J
  exact ⟨j1, j2, j3, j4, j5, j6, by omega, by omega⟩
theorem RI.pos (I : RI g r n nf p due oc rf) {p' : Nat} : RI (sI g r 4 (nI p')) r n nf p' due oc rf := by
  obtain ⟨i1, i2, i3, i4, i5, i6⟩ := I
  exact ⟨by rw [hI_ne (by omega)]; exact i1, by rw [hI_ne (by omega)]; exact i2, hI_at, by rw [hI_ne (by omega)]; exact i4, by rw [hI_ne (by omega)]; exact i5, by rw [hI_ne (by omega)]; exact i6⟩
theorem RI.setD (I : RI g r n nf p due oc rf) {b : Bool} : RI (sI g r 5 (bi b)) r n nf p b oc rf := by
  obtain ⟨i1, i2, i3, i4, i5, i6⟩ := I
  exact ⟨by rw [hI_ne (by omega)]; exact i1, by rw [hI_ne (by omega)]; exact i2, by rw [hI_ne (by omega)]; exact i3, hI_at, by rw [hI_ne (by omega)]; exact i5, by rw [hI_ne (by omega)]; exact i6⟩
theorem RI.setO (I : RI g r n nf p due oc rf) {o : Nat} : RI (sI g r 6 (nI o)) r n nf p due o rf := by
  obtain ⟨i1, i2, i3, i4, i5, i6⟩ := I
  exact ⟨by rw [hI_ne (by omega)]; exact i1, by rw [hI_ne (by omega)]; exact i2, by rw [hI_ne (by omega)]; exact i3, by rw [hI_ne (by omega)]; exact i4, hI_at, by rw [hI_ne (by omega)]; exact i6⟩
theorem RI.setR (I : RI g r n nf p due oc rf) {o : Nat} : RI (sI g r 7 (nI o)) r n nf p due oc o := by
  obtain ⟨i1, i2, i3, i4, i5, i6⟩ := I
  exact ⟨by rw [hI_ne (by omega)]; exact i1, by rw [hI_ne (by omega)]; exact i2, by rw [hI_ne (by omega)]; exact i3, by rw [hI_ne (by omega)]; exact i4, by rw [hI_ne (by omega)]; exact i5, hI_at⟩
theorem RI.same {g' : AHp} (I : RI g r n nf p due oc rf) (e : hI g' r = hI g r) : RI g' r n nf p due oc rf := by
  unfold RI; rw [e]; exact I
theorem C_peek (J : PJ h0 g A tx t8 n r a q cs ws out W) (I : RI g r n nf p due oc rf) (hp : p ≤ n) (hn : n ≤ 60) (qq : R (some (vi (sgA t8 n p))) g) : WM lim d j_Te_peek [vr (some r)] g R X := by
  have kr := J.kr
  obtain ⟨i1, i2, i3, i4, i5, i6⟩ := I
  refine B_Te_peek_0 ?_
  rw [i3, i1]
  refine ⟨kr, ?_⟩
  rw [if_neg (by rw [i_lt, nI_toInt (by omega), i_0]; omega)]
  refine ⟨kr, kr, ?_⟩
  unfold sgA at qq
  by_cases c : p < n
  · rw [if_pos (nI_lt (by omega) (by omega)), J.2.2.1.2.2.1, onR_s, nI_clamp (by omega), J.2.2.2.2.2.1.2.2.2 p c, J.2.2.2.2.2.1.2.2.1]
    rw [if_pos c] at qq
    exact ⟨kr, kr, J.2.2.2.2.2.1.2.1, ix_nI (by omega) (by decide), rfl, qq⟩
  · rw [if_neg (nI_nlt (by omega) (by omega))]
    rw [if_neg c] at qq
    exact ⟨rfl, qq⟩
theorem C_release (hd : 0 < d) : ∀ (W : List SP) (ws cs : List Nat) (out : List SP) (g : AHp) (l2 : Option AV), PJ h0 g A tx t8 n r a q cs ws out W → (∀ g' cs' ws', PJ h0 g' A tx t8 n r a q cs' ws' (rlA k out W).1 (rlA k out W).2 → hI g' r = hI g r → R none g') → WP lim d j_Te_release 0 [some (vr (some r)), some (vi k), l2] [] g R X := by
  intro W
  induction W with
  | nil =>
    intro ws cs out g l2 J qq
    have kr := J.kr
    have hw : ws = [] := by
      cases ws with
      | nil => rfl
      | cons _ _ => exact J.2.2.2.2.1.elim
    subst hw
    refine B_Te_release_0w ?_
    rw [J.2.2.1.2.2.2.2]
    exact ⟨kr, rfl, qq g cs [] J rfl⟩
  | cons s W ih =>
    intro ws cs out g l2 J qq
    have kr := J.kr
    obtain ⟨n1, n2, n3, n4, n5⟩ := J.ne
    cases ws with
    | nil => exact J.2.2.2.2.1.elim
    | cons w ws =>
      obtain ⟨j1, j2, j3, j4, ⟨c1, c2, c3, c4, c5⟩, j6, j7⟩ := J
      have e8 : hP g r 8 = some w := j3.2.2.2.2
      have ndw : w ∉ cs ∧ w ∉ ws ∧ (∀ x, x ∈ cs → x ∉ ws) := by
        have nd := j2.2.2.2
        rw [List.nodup_append] at nd
        refine ⟨fun z => nd.2.2 w z w List.mem_cons_self rfl, (List.nodup_cons.mp nd.2.1).1, fun x h1 h2 => nd.2.2 x h1 x (List.mem_cons_of_mem _ h2) rfl⟩
      refine B_Te_release_0w ?_
      rw [e8, ifN_s]
      simp only [onR_s, c3.1, hk_sP]
      refine ⟨kr, kr, c2, ?_⟩
      split
      · rename_i c
        rw [rlA, if_pos c] at qq
        exact ⟨trivial, qq g cs (w :: ws) ⟨j1, j2, j3, j4, ⟨c1, c2, c3, c4, c5⟩, j6, j7⟩ rfl⟩
      · rename_i c
        rw [rl_go c] at qq
        have wr := n4 w List.mem_cons_self
        have wa := n5 w List.mem_cons_self
        rw [c4]
        have e3 : hP (sP g r 8 ws.head?) r 3 = some a := by rw [hP_sP, hPq_ne (by omega)]; exact j3.2.2.2.1
        rw [e3, onR_s]
        have offP : ∀ x, x ≠ r → hP (sP g r 8 ws.head?) x = hP g x := fun x hx => by rw [hP_sP]; exact up2_off _ hx
        have F1 : FCh (sP g r 8 ws.head?) a cs out := by
          obtain ⟨f1, f2, f3, f4, f5, f6⟩ := j4
          exact ⟨f1, f2, by rw [offP a n1]; exact f3, by rw [offP a n1]; exact f4, f5.same (fun x hx => ⟨(f5.at x hx).1, rfl, rfl, offP x (n3 x hx)⟩), f6⟩
        have L1 : LK (sP g r 8 ws.head?) ws W := c5.same (fun x hx => ⟨(c5.at x hx).1, rfl, rfl, offP x (n4 x (List.mem_cons_of_mem _ hx))⟩)
        have P0 : hP (sP g r 8 ws.head?) r 0 = some tx := by rw [hP_sP, hPq_ne (by omega)]; exact j3.2.2.1
        have P8 : hP (sP g r 8 ws.head?) r 8 = ws.head? := by rw [hP_sP, hPq_at]
        have K1 : Keep h0 (sP g r 8 ws.head?) A := sP_kp j1 (Or.inl j2.1)
        have hI1 : hI (sP g r 8 ws.head?) = hI g := rfl
        have hk1 : hk (sP g r 8 ws.head?) = hk g := rfl
        have hl1 : hLen (sP g r 8 ws.head?) = hLen g := rfl
        have hs1 : hsz (sP g r 8 ws.head?) = hsz g := rfl
        have hu1 : hsu (sP g r 8 ws.head?) = hsu g := rfl
        generalize sP g r 8 ws.head? = g1 at e3 F1 L1 P0 P8 K1 hI1 hk1 hl1 hs1 hu1
        refine ⟨kr, c2, kr, kr, all1.mpr j4.1, hd, ?_⟩
        have cI : hI g1 w 0 = s.1 ∧ hI g1 w 1 = s.2.1 ∧ hI g1 w 2 = s.2.2.1 ∧ hI g1 w 3 = s.2.2.2 := by rw [hI1]; exact c3
        refine C_append (s := s) F1 (by rw [hs1]; exact c1) (by rw [hk1]; exact c2) cI ndw.1 (fun g2 fr ei F2 => ?_)
        have hk2 : hk g2 = hk g := fr.2.2.1.trans hk1
        have nr : ¬ (r = a ∨ r = w ∨ r ∈ cs) := by
          rintro (e | e | e)
          · exact n1 e.symm
          · exact wr e.symm
          · exact n3 r e rfl
        have nt : ¬ (tx = a ∨ tx = w ∨ tx ∈ cs) := by
          rintro (e | e | e)
          · have := j6.2.1; rw [e, j4.1] at this; cases this
          · have := j6.2.1; rw [e, c2] at this; cases this
          · have := (j4.2.2.2.2.1.at tx e).2; rw [j6.2.1] at this; cases this
        have fr_r := fr.2.2.2.2 r nr
        have er : hI g2 r = hI g r := by rw [ei, hI1]
        refine ih ws (cs ++ [w]) (out ++ [s]) g2 _ ⟨fr.kp K1 (fun x hx => Or.inl ?_), ⟨j2.1, j2.2.1, fun x hx => j2.2.2.1 x ?_, ?_⟩, ⟨by rw [fr.1, hs1]; exact j3.1, by rw [hk2]; exact kr, by rw [fr_r.2.1]; exact P0, by rw [fr_r.2.1]; exact e3, by rw [fr_r.2.1]; exact P8⟩, F2, ?_, ⟨by rw [fr.1, hs1]; exact j6.1, by rw [hk2]; exact j6.2.1, by rw [fr.2.2.2.1, hl1]; exact j6.2.2.1, fun i hi => by rw [ei, hI1]; exact j6.2.2.2 i hi⟩, by rw [fr.1, fr.2.1, hs1, hu1]; exact j7⟩ (fun g' cs' ws' J' e' => qq g' cs' ws' J' (e'.trans er))
        · rcases hx with e | e | e
          · rw [e]; exact j2.2.1
          · rw [e]; exact j2.2.2.1 w (List.mem_append_right _ List.mem_cons_self)
          · exact j2.2.2.1 x (List.mem_append_left _ e)
        · rw [List.append_assoc] at hx; exact hx
        · rw [List.append_assoc]; exact j2.2.2.2
        · refine L1.same (fun x hx => ⟨by rw [fr.1]; exact (L1.at x hx).1, by rw [hk2, hk1], by rw [ei], (fr.2.2.2.2 x ?_).2.1⟩)
          rintro (e | e | e)
          · exact n5 x (List.mem_cons_of_mem _ hx) e
          · exact ndw.2.1 (e ▸ hx)
          · exact ndw.2.2 x e hx
theorem C_rel (hd : 0 < d) (J : PJ h0 g A tx t8 n r a q cs ws out W) (qq : ∀ g' cs' ws', PJ h0 g' A tx t8 n r a q cs' ws' (rlA k out W).1 (rlA k out W).2 → hI g' r = hI g r → R none g') : WM lim d j_Te_release [vr (some r), vi k] g R X := by
  have := C_release (lim := lim) (X := X) hd W ws cs out g none J qq
  exact this
theorem C_await (hd : 1 < d) (J : PJ h0 g A tx t8 n r a q cs ws out W) (hz : hsz h0 + 3 + q ≤ lim.1) (hu : hsu h0 + 17 + 5 * q ≤ lim.2) (qq : ∀ g' ws', PJ h0 g' A tx t8 n r a (q + 1) cs ws' out ((k, 0, 0, 0) :: W) → hI g' r = hI g r → R none g') : WM lim d j_Te_await [vr (some r), vi k] g R X := by
  have kr := J.kr
  obtain ⟨n1, n2, n3, n4, n5⟩ := J.ne
  obtain ⟨j1, j2, j3, j4, j5, j6, j7⟩ := J
  refine B_Te_await_0 ⟨by omega, C_plainStep (by omega) (by omega) (by omega) (fun g1 nw => onO_v ?_)⟩
  have F1 := nw.snd j4
  obtain ⟨z1, u1, k1, ke, hv⟩ := nw
  have hr1 := k1.2 r j3.1
  have cr1 := hr1.2.2 (fun z => z)
  have er : hsz g ≠ r := fun z => by have := j3.1; omega
  have ea : hsz g ≠ a := fun z => by have := j4.2.1; omega
  have kt := k1.2 tx j6.1
  have ct := kt.2.2 (fun z => z)
  rw [onR_s, hk_sP, cr1.2.1, j3.2.2.2.2]
  have offP : ∀ x, x ≠ r → x ≠ hsz g → hP (sP (sP g1 (hsz g) 4 ws.head?) r 8 (some (hsz g))) x = hP g1 x := fun x h1 h2 => by rw [hP_sP, up2_off _ h1, hP_sP, up2_off _ h2]
  have k1m : Keep h0 g1 A := j1.trans (k1.mono (fun x z => z.elim))
  have K2 : Keep h0 (sP (sP g1 (hsz g) 4 ws.head?) r 8 (some (hsz g))) A := sP_kp (sP_kp k1m (Or.inl j1.1)) (Or.inl j2.1)
  have P4 : hP (sP (sP g1 (hsz g) 4 ws.head?) r 8 (some (hsz g))) (hsz g) 4 = ws.head? := by rw [hP_sP, hPq_ne (fun z => er z.1), hP_sP, hPq_at]
  have P8 : hP (sP (sP g1 (hsz g) 4 ws.head?) r 8 (some (hsz g))) r 8 = some (hsz g) := by rw [hP_sP, hPq_at]
  have P0 : hP (sP (sP g1 (hsz g) 4 ws.head?) r 8 (some (hsz g))) r 0 = some tx := by rw [hP_sP, hPq_ne (by omega), hP_sP, hPq_ne (by omega), cr1.2.1]; exact j3.2.2.1
  have P3 : hP (sP (sP g1 (hsz g) 4 ws.head?) r 8 (some (hsz g))) r 3 = some a := by rw [hP_sP, hPq_ne (by omega), hP_sP, hPq_ne (by omega), cr1.2.1]; exact j3.2.2.2.1
  have hI1 : hI (sP (sP g1 (hsz g) 4 ws.head?) r 8 (some (hsz g))) = hI g1 := rfl
  have hk1 : hk (sP (sP g1 (hsz g) 4 ws.head?) r 8 (some (hsz g))) = hk g1 := rfl
  have hl1 : hLen (sP (sP g1 (hsz g) 4 ws.head?) r 8 (some (hsz g))) = hLen g1 := rfl
  have hs1 : hsz (sP (sP g1 (hsz g) 4 ws.head?) r 8 (some (hsz g))) = hsz g1 := rfl
  have hu1 : hsu (sP (sP g1 (hsz g) 4 ws.head?) r 8 (some (hsz g))) = hsu g1 := rfl
  refine ⟨hr1.1.trans kr, ke, hr1.1.trans kr, rfl, ?_⟩
  generalize sP (sP g1 (hsz g) 4 ws.head?) r 8 (some (hsz g)) = g2 at offP K2 P4 P8 P0 P3 hI1 hk1 hl1 hs1 hu1
  have er2 : hI g2 r = hI g r := by rw [hI1, cr1.1]
  have ne_cs : ∀ x, x ∈ cs → x ≠ hsz g := fun x hx z => by have := (j4.2.2.2.2.1.at x hx).1; omega
  have ne_ws : ∀ x, x ∈ ws → x ≠ hsz g := fun x hx z => by have := (j5.at x hx).1; omega
  refine qq g2 (hsz g :: ws) ⟨K2, ⟨j2.1, j2.2.1, fun x hx => ?_, ?_⟩, ⟨by rw [hs1]; have := j3.1; omega, by rw [hk1]; exact hr1.1.trans kr, P0, P3, P8⟩, ?_, ⟨by rw [hs1]; omega, by rw [hk1]; exact ke, by rw [hI1]; exact hv, P4, ?_⟩, ⟨by rw [hs1]; have := j6.1; omega, by rw [hk1]; exact kt.1.trans j6.2.1, by rw [hl1]; exact kt.2.1.trans j6.2.2.1, fun i hi => ?_⟩, ⟨by rw [hs1]; omega, by rw [hu1]; omega⟩⟩ er2
  · rw [List.mem_append, List.mem_cons] at hx
    rcases hx with hx | hx | hx
    · exact j2.2.2.1 x (List.mem_append_left _ hx)
    · rw [hx]; exact j1.1
    · exact j2.2.2.1 x (List.mem_append_right _ hx)
  · have nd := j2.2.2.2
    rw [List.nodup_append] at nd ⊢
    refine ⟨nd.1, List.nodup_cons.mpr ⟨fun z => ne_ws _ z rfl, nd.2.1⟩, fun x hx y hy e => ?_⟩
    rcases List.mem_cons.mp hy with hy | hy
    · exact ne_cs x hx (e.trans hy)
    · exact nd.2.2 x hx y hy e
  · obtain ⟨f1, f2, f3, f4, f5, f6⟩ := F1
    exact ⟨by rw [hk1]; exact f1, by rw [hs1]; exact f2, by rw [offP a n1 (fun z => ea z.symm)]; exact f3, by rw [offP a n1 (fun z => ea z.symm)]; exact f4, f5.same (fun x hx => ⟨by rw [hs1]; exact (f5.at x hx).1, by rw [hk1], by rw [hI1], offP x (n3 x hx) (ne_cs x hx)⟩), f6⟩
  · refine j5.same (fun x hx => ?_)
    have kx := k1.2 x (j5.at x hx).1
    have cx := kx.2.2 (fun z => z)
    exact ⟨by rw [hs1]; have := (j5.at x hx).1; omega, by rw [hk1]; exact kx.1, by rw [hI1]; exact cx.1, by rw [offP x (n4 x hx) (ne_ws x hx)]; exact cx.2.1⟩
  · rw [hI1, ct.1]; exact j6.2.2.2 i hi
/-- a new step behind the filter's -/
theorem C_app {g1 : AHp} {s : SP} (J : PJ h0 g A tx t8 n r a q cs ws out W) (nw : NwS g g1 s) (qq : ∀ g' cs', PJ h0 g' A tx t8 n r a (q + 1) cs' ws (out ++ [s]) W → hI g' r = hI g r → R none g') : WM lim d j_Fi_append [vr (some a), vr (some (hsz g))] g1 R X := by
  have kr := J.kr
  obtain ⟨n1, n2, n3, n4, n5⟩ := J.ne
  obtain ⟨j1, j2, j3, j4, j5, j6, j7⟩ := J
  have nd := j2.2.2.2
  rw [List.nodup_append] at nd
  have F1 := nw.snd j4
  have nwk := nw.2.2.1
  refine C_append F1 (by rw [nw.1]; omega) nw.2.2.2.1 nw.2.2.2.2 (fun z => by have := (j4.2.2.2.2.1.at _ z).1; omega) (fun g2 fr ei F2 => ?_)
  have ne_ws : ∀ x, x ∈ ws → x ≠ hsz g := fun x hx z => by have := (j5.at x hx).1; omega
  have frr : ∀ x, x < hsz g → x ≠ a → x ∉ cs → hk g2 x = hk g x ∧ hLen g2 x = hLen g x ∧ hI g2 x = hI g x ∧ hP g2 x = hP g x := by
    intro x hx h1 h2
    have kx := nwk.2 x hx
    have cx := kx.2.2 (fun z => z)
    have fx := fr.2.2.2.2 x (fun z => by
      rcases z with z | z | z
      · exact h1 z
      · omega
      · exact h2 z)
    exact ⟨by rw [fr.2.2.1]; exact kx.1, by rw [fr.2.2.2.1]; exact kx.2.1, fx.1.trans cx.1, fx.2.1.trans cx.2.1⟩
  have rr := frr r j3.1 (fun z => n1 z.symm) (fun z => n3 r z rfl)
  have rt := frr tx j6.1 (fun z => by have := j6.2.1; rw [z, j4.1] at this; cases this) (fun z => by have := (j4.2.2.2.2.1.at tx z).2; rw [j6.2.1] at this; cases this)
  have hs2 : hsz g2 = hsz g + 1 := fr.1.trans nw.1
  have hu2 : hsu g2 = hsu g + 5 := fr.2.1.trans nw.2.1
  refine qq g2 (cs ++ [hsz g]) ⟨fr.kp (j1.trans (nwk.mono (fun x z => z.elim))) (fun x hx => Or.inl ?_), ⟨j2.1, j2.2.1, fun x hx => ?_, ?_⟩, ⟨by rw [hs2]; have := j3.1; omega, rr.1.trans kr, by rw [rr.2.2.2]; exact j3.2.2.1, by rw [rr.2.2.2]; exact j3.2.2.2.1, by rw [rr.2.2.2]; exact j3.2.2.2.2⟩, F2, j5.same (fun x hx => ?_), ⟨by rw [hs2]; have := j6.1; omega, rt.1.trans j6.2.1, rt.2.1.trans j6.2.2.1, fun i hi => by rw [rt.2.2.1]; exact j6.2.2.2 i hi⟩, ⟨by omega, by omega⟩⟩ rr.2.2.1
  · rcases hx with e | e | e
    · rw [e]; exact j2.2.1
    · rw [e]; exact j1.1
    · exact j2.2.2.1 x (List.mem_append_left _ e)
  · rw [List.mem_append, List.mem_append, List.mem_singleton] at hx
    rcases hx with (hx | hx) | hx
    · exact j2.2.2.1 x (List.mem_append_left _ hx)
    · rw [hx]; exact j1.1
    · exact j2.2.2.1 x (List.mem_append_right _ hx)
  · rw [List.nodup_append]
    refine ⟨F2.2.2.2.2.2, nd.2.1, fun x hx y hy e => ?_⟩
    rw [List.mem_append, List.mem_singleton] at hx
    rcases hx with hx | hx
    · exact nd.2.2 x hx y hy e
    · exact ne_ws y hy (by rw [← e]; exact hx)
  · have xx := frr x (j5.at x hx).1 (n5 x hx) (fun z => nd.2.2 x z x hx rfl)
    exact ⟨by rw [hs2]; have := (j5.at x hx).1; omega, xx.1, xx.2.2.1, xx.2.2.2⟩
end RDC
