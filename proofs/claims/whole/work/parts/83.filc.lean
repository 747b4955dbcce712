/-! ===== the class's filters, asked ===== -/
def SCh (g : AHp) : Option Nat → List SP → Prop
  | o, [] => o = none
  | o, s :: L => ∃ a, o = some a ∧ a < hsz g ∧ hk g a = 3 ∧ (hI g a 0 = s.1 ∧ hI g a 1 = s.2.1 ∧ hI g a 2 = s.2.2.1 ∧ hI g a 3 = s.2.2.2) ∧ SCh g (hP g a 4) L
def FA (g : AHp) (c F : Nat) (FL : Nat → List SP) (NB : Nat → Int32) (fa : Nat → Nat) (nf : Nat) : Prop :=
  nf ≤ 8 ∧ hI g c 2 = nI nf ∧ (hP g c 1 = some F ∧ F < hsz g ∧ hk g F = 11 ∧ hLen g F = 8 ∧ ∀ f, f < nf → hP g F f = some (fa f)) ∧ (∀ f, f < nf → fa f < hsz g ∧ hk g (fa f) = 1 ∧ SCh g (hP g (fa f) 0) (FL f) ∧ hI g (fa f) 2 = NB f) ∧ PF FL NB nf
theorem onI_bi {b : Bool} {f : Int32 → Prop} (h : f (bi b)) : onI (some (vi (bi b))) f := h
section FILC
variable {g : AHp} {c t b F : Nat} {na : Nat → Nat} {K : MT} {T : Tr} {N : Nat} {W : Int} {lim : Nat × Nat} {d : Nat} {R : RT} {X : XT} {x y : Int32} {FL : Nat → List SP} {NB : Nat → Int32} {fa : Nat → Nat} {nf : Nat} {s : SP} {L : List SP} {st : List Bool} {A : Nat → Bool}
theorem C_push {w : Int32} {b : Bool} (q : R (some (vi ((w <<< ((1 : Int32) &&& 31)) ||| bi b))) g) : WM lim d j_It_push [vi w, vi (bi b)] g R X := by
  refine B_It_push_0 ?_
  cases b with
  | false => rw [if_pos (show bi false = 0 from rfl)]; exact ⟨rfl, q⟩
  | true => rw [if_neg (by decide)]; exact ⟨rfl, q⟩
theorem C_valueF (O : RO g c t b na K T N W) {j : Nat} (hj : j ∈ ino T) (q : R (some (vi (fval K j y))) g) : WM lim d j_No_valueOf [vr (some (na j)), vi y] g R X := by
  refine B_No_valueOf_0 ?_
  rw [O.2.1.lo hj, O.2.1.hi hj, O.2.1.we hj]
  unfold fval at q
  split
  · rename_i e; rw [if_pos e] at q; exact ⟨O.2.1.kn hj, rfl, q⟩
  · rename_i e; rw [if_neg e] at q
    split
    · rename_i e; rw [if_pos e] at q; exact ⟨O.2.1.kn hj, rfl, q⟩
    · rename_i e; rw [if_neg e] at q
      split
      · rename_i e; rw [if_pos e] at q; exact ⟨O.2.1.kn hj, rfl, q⟩
      · rename_i e; rw [if_neg e] at q; exact ⟨O.2.1.kn hj, O.2.1.kn hj, rfl, q⟩
theorem C_oa8 (O : RO g c t b na K T N W) {j : Nat} (hj : j ∈ ino T) : ∀ (S P : List Nat), ino T = P ++ S → R (some (vi (bi (ovA K (S.filter fun x => decide (K 4 x = 0)) j)))) g → WP lim d j_It_overlapsAnother 8 [some (vr (some c)), some (vr (some (na j))), some (vr (oa na (hdI S)))] [] g R X := by
  intro S
  induction S with
  | nil => intro P _ q; exact B_It_overlapsAnother_8 (by rw [show hdI [] = (-1 : Int32) from rfl, oa_n]; exact ⟨rfl, Or.inl rfl, q⟩)
  | cons i S ih =>
    intro P h q
    have V := O.2.1
    have hi : i ∈ ino T := by rw [h]; exact List.mem_append_right _ List.mem_cons_self
    have e41 := (CH.at (h ▸ O.2.2.2.1 : CH K (P ++ i :: S))).2
    have aft : ∀ o ∈ S, (K 1 i).toInt ≤ (K 1 o).toInt := by
      have := O.2.2.1.2.2.2.1
      rw [h, List.pairwise_append, List.pairwise_cons] at this
      exact fun o ho => less_lo (this.2.1.1 o ho)
    have ih := ih (P ++ [i]) (by rw [h]; simp)
    refine B_It_overlapsAnother_8 ?_
    rw [show hdI (i :: S) = nI i from rfl, oa_s (V.lt hi), ifN_s]
    simp only [onR_s, V.lo hi, V.hi hi, V.lo hj, V.hi hj, V.st hi, (V.af hi).1, e41]
    refine ⟨V.kn hi, V.kn hj, ?_⟩
    split
    · rename_i c1; rw [i_lt] at c1
      have e : ovA K ((i :: S).filter fun x => decide (K 4 x = 0)) j = false := by
        unfold ovA
        rw [List.any_eq_false]
        intro o ho hc
        have hc := of_decide_eq_true hc
        rcases List.mem_cons.mp (List.mem_filter.mp ho).1 with rfl | ho
        · omega
        · have := aft o ho; omega
      rw [e] at q
      exact ⟨trivial, Or.inl rfl, q⟩
    · rename_i c1; rw [i_lt] at c1
      refine ⟨V.kn hi, ?_⟩
      rw [List.filter_cons] at q
      split
      · rename_i c0
        rw [if_pos (decide_eq_true c0)] at q
        have go : ¬ (i ≠ j ∧ (K 1 i).toInt ≤ (K 2 j).toInt ∧ (K 1 j).toInt ≤ (K 2 i).toInt) → hk g (na i) = 2 ∧ WP lim d j_It_overlapsAnother 8 [some (vr (some c)), some (vr (some (na j))), some (vr (oa na (hdI S)))] [] g R X := by
          intro hn
          have e : ovA K (i :: S.filter fun x => decide (K 4 x = 0)) j = ovA K (S.filter fun x => decide (K 4 x = 0)) j := by unfold ovA; rw [List.any_cons, decide_eq_false hn, Bool.false_or]
          rw [e] at q
          exact ⟨V.kn hi, ih q⟩
        split
        · rename_i c2
          have : i = j := V.2.2.2.2.1 i j hi hj (Option.some.inj c2)
          exact go (fun z => z.1 this)
        · rename_i c2
          refine ⟨V.kn hi, V.kn hj, ?_⟩
          split
          · rename_i c3; rw [i_lt] at c3
            exact go (fun z => by omega)
          · rename_i c3; rw [i_lt] at c3
            have e : ovA K (i :: S.filter fun x => decide (K 4 x = 0)) j = true := by
              unfold ovA
              rw [List.any_cons, decide_eq_true ⟨fun z => c2 (by rw [z]), by omega, by omega⟩, Bool.true_or]
            rw [e] at q
            exact ⟨trivial, Or.inr rfl, q⟩
      · rename_i c0
        rw [if_neg (by rw [decide_eq_false c0]; decide)] at q
        exact ⟨V.kn hi, ih q⟩
theorem C_overlapsAnother (O : RO g c t b na K T N W) {j : Nat} (hj : j ∈ ino T) (q : R (some (vi (bi (ovA K (live K T) j)))) g) : WM lim d j_It_overlapsAnother [vr (some c), vr (some (na j))] g R X := by
  refine B_It_overlapsAnother_0 ⟨O.1.1, ?_⟩
  rw [O.1.2, onR_s, O.2.1.fi.1, O.2.2.2.1.1]
  exact ⟨O.2.1.kt, C_oa8 O hj (ino T) [] rfl q⟩
theorem C_perform (O : RO g c t b na K T N W) (hd : 2 < d) {j a f : Nat} {w av : Int32} (hj : j ∈ ino T) (ka : hk g a = 3) (ha : hI g a 0 = s.1 ∧ hI g a 1 = s.2.1 ∧ hI g a 2 = s.2.2.1 ∧ hI g a 3 = s.2.2.2) (h8 : f ≤ 8) (hs : Sk w st) (hst : st.length ≤ 31) (hw : wf f (s :: L) st.length) (hA : ∀ r, r < f → refd (s :: L) r → bA av r = A r) (q : ∀ w', Sk w' (pfm K (live K T) j A s st) → wf f L (pfm K (live K T) j A s st).length → (pfm K (live K T) j A s st).length ≤ 31 → R (some (vi w')) g) : WM lim d j_It_perform [vr (some c), vr (some a), vi w, vr (some (na j)), vi av] g R X := by
  refine B_It_perform_0 ?_
  simp only [onR_s, ha.1, ha.2.1, ha.2.2.1, ha.2.2.2]
  refine ⟨ka, ?_⟩
  have V := O.2.1
  rcases wf_step (K := K) (l := live K T) (i := j) (A := A) h8 hw with ⟨e, hl, p, hn⟩ | ⟨e, hl, p, hn⟩ | ⟨e, hl, ⟨r, hr, er, hrf, p⟩, hn⟩ | ⟨e, ⟨b0, r, es, p⟩, hn⟩ | ⟨e, ⟨a0, b0, r, es, p⟩, hn⟩ | ⟨e, ⟨a0, b0, r, es, p⟩, hn⟩
  · rw [if_pos e]
    have P : ∀ b0, inr K j s = b0 → 0 < d ∧ WM lim (d - 1) j_It_push [vi w, vi (bi b0)] g (fun v13 h12 => onI v13 fun x14 => True ∧ R (some (vi x14)) h12) (X) := by
      intro b0 eb
      refine ⟨by omega, C_push (onI_v ⟨trivial, q _ ?_ hn (by rw [p]; exact hl)⟩)⟩
      rw [p, eb]; exact Sk_push hs (by omega)
    refine ⟨ka, all1.mpr (V.kn hj), by omega, C_valueF O hj (onI_v ⟨ka, ?_⟩)⟩
    split
    · rename_i c1; rw [ha.2.2.1, i_lt] at c1
      exact P false (by unfold inr; rw [decide_eq_false (by omega)])
    · rename_i c1; rw [ha.2.2.1, i_lt] at c1
      refine ⟨ka, ?_⟩
      split
      · rename_i c2; rw [ha.2.2.2, i_lt] at c2
        exact P false (by unfold inr; rw [decide_eq_false (by omega)])
      · rename_i c2; rw [ha.2.2.2, i_lt] at c2
        exact P true (by unfold inr; rw [decide_eq_true (by omega)])
  · rw [if_neg (by rw [e]; decide), if_pos e]
    refine ⟨all1.mpr O.1.1, by omega, C_overlapsAnother O hj (onI_v ⟨by omega, C_push (onI_v ⟨trivial, q _ ?_ hn (by rw [p]; exact hl)⟩)⟩)⟩
    rw [p]; exact Sk_push hs (by omega)
  · rw [if_neg (by rw [e]; decide), if_neg (by rw [e]; decide), if_pos e]
    refine ⟨ka, ?_⟩
    rw [er]
    have P : ∀ b0, bA av r = b0 → 0 < d ∧ WM lim (d - 1) j_It_push [vi w, vi (bi b0)] g (fun v13 h12 => onI v13 fun x14 => True ∧ R (some (vi x14)) h12) (X) := by
      intro b0 eb
      refine ⟨by omega, C_push (onI_v ⟨trivial, q _ ?_ hn (by rw [p]; exact hl)⟩)⟩
      rw [p, ← hA r hr hrf, eb]; exact Sk_push hs (by omega)
    split
    · rename_i c1; rw [bA_sh (by omega)] at c1; exact P true c1
    · rename_i c1; rw [bA_sh (by omega)] at c1; exact P false (by simpa using c1)
  · rw [if_neg (by rw [e]; decide), if_neg (by rw [e]; decide), if_neg (by rw [e]; decide), if_pos e]
    refine ⟨trivial, q _ ?_ hn (by rw [p]; rw [es] at hst; exact hst)⟩
    rw [p]; rw [es] at hs; exact Sk_not hs
  · rw [if_neg (by rw [e]; decide), if_neg (by rw [e]; decide), if_neg (by rw [e]; decide), if_neg (by rw [e]; decide), if_pos e]
    rw [es] at hs
    have hl : r.length < 31 := by rw [es] at hst; simp only [List.length_cons] at hst; omega
    have := Sk_and hs hl
    rw [← p] at this
    split
    · rename_i c1; rw [if_pos c1] at this; exact ⟨trivial, q _ this hn (by rw [p]; rw [es] at hst; simp only [List.length_cons] at hst ⊢; omega)⟩
    · rename_i c1; rw [if_neg c1] at this; exact ⟨trivial, q _ this hn (by rw [p]; rw [es] at hst; simp only [List.length_cons] at hst ⊢; omega)⟩
  · rw [if_neg (by rw [e]; decide), if_neg (by rw [e]; decide), if_neg (by rw [e]; decide), if_neg (by rw [e]; decide), if_neg (by rw [e]; decide), if_pos e]
    rw [es] at hs
    have := Sk_or hs
    rw [← p] at this
    split
    · rename_i c1; rw [if_pos c1] at this; exact ⟨trivial, q _ this hn (by rw [p]; rw [es] at hst; simp only [List.length_cons] at hst ⊢; omega)⟩
    · rename_i c1; rw [if_neg c1] at this; exact ⟨trivial, q _ this hn (by rw [p]; rw [es] at hst; simp only [List.length_cons] at hst ⊢; omega)⟩
theorem C_dec15 (O : RO g c t b na K T N W) (hd : 3 < d) {j f : Nat} {av : Int32} {o1 : Option Nat} (hj : j ∈ ino T) (h8 : f ≤ 8) : ∀ (L : List SP) (st : List Bool) (w : Int32) (o : Option Nat), SCh g o L → Sk w st → st.length ≤ 31 → wf f L st.length → (∀ r, r < f → refd L r → bA av r = A r) → R (some (vi (bi ((ev K (live K T) j A L st).headD false)))) g → WP lim d j_It_decide 15 [some (vr (some c)), some (vr o1), some (vr (some (na j))), some (vi av), some (vi w), some (vr o)] [] g R X := by
  intro L
  induction L with
  | nil =>
    intro st w o hc hs hl hw hA q
    rw [show o = none from hc]
    refine B_It_decide_15 ?_
    match st, hw, hs, q with
    | [v], _, hs, q =>
      rw [ev_nil] at q
      show if (w &&& 1) = 1 then _ else _
      have := Sk_hd hs
      cases v with
      | true => rw [if_pos (this.mpr rfl)]; exact ⟨rfl, Or.inr rfl, q⟩
      | false => rw [if_neg (fun c => by cases this.mp c)]; exact ⟨rfl, Or.inl rfl, q⟩
  | cons s L ih =>
    intro st w o hc hs hl hw hA q
    obtain ⟨a, e, ha, ka, hv, hn⟩ := hc
    subst e
    refine B_It_decide_15 ?_
    rw [ifN_s]
    refine ⟨all1.mpr O.1.1, by omega, C_perform O (by omega) hj ka hv h8 hs hl hw hA (fun w' hs' hw' hl' => onI_v ?_)⟩
    rw [onR_s]
    exact ⟨ka, ih _ _ _ hn hs' hl' hw' (fun r h1 h2 => hA r h1 (refd_cons h2)) q⟩
theorem C_decide (O : RO g c t b na K T N W) (hd : 3 < d) {j f a : Nat} {av : Int32} (hj : j ∈ ino T) (h8 : f ≤ 8) (ka : hk g a = 1) (hc : SCh g (hP g a 0) (FL f)) (hw : wf f (FL f) 0) (hA : ∀ r, r < f → refd (FL f) r → bA av r = tk K (live K T) j FL r) (q : R (some (vi (bi (tk K (live K T) j FL f)))) g) : WM lim d j_It_decide [vr (some c), vr (some a), vr (some (na j)), vi av] g R X := by
  refine B_It_decide_0 ?_
  rw [ifN_s, onR_s]
  refine ⟨ka, C_dec15 (A := fun r => tk K (live K T) j FL r) O hd hj h8 (FL f) [] 0 _ hc Sk_nil (by decide) hw hA ?_⟩
  rw [tk_of h8 hw (fun r _ _ => rfl)]; exact q
theorem C_needsOf (hc : hk g c = 6) (Y : FA g c F FL NB fa nf) {f : Nat} (hf : f < nf) (q : R (some (vi (NB f))) g) : WM lim d j_It_needsOf [vr (some c), vi (nI f)] g R X := by
  have h8 := Y.1
  refine B_It_needsOf_0 ?_
  rw [if_neg (by rw [i_lt, nI_toInt (by omega), i_0]; omega)]
  refine ⟨hc, ?_⟩
  rw [Y.2.1, if_pos (nI_lt (by omega) (by omega))]
  obtain ⟨h1, h2, h3, h4, h5⟩ := Y.2.2.1
  obtain ⟨f1, f2, f3, f4⟩ := Y.2.2.2.1 f hf
  refine ⟨hc, ?_⟩
  simp only [h1, onR_s, h3, h4]
  refine ⟨by omega, ?_⟩
  rw [if_pos (nI_lt (by omega) (by omega)), nI_clamp (by omega), h5 f hf, ifN_s, onR_s, f4]
  exact ⟨hc, trivial, ix_nI (by omega) (by decide), f2, trivial, q⟩
theorem C_mat12 (O : RO g c t b na K T N W) (hd : 4 < d) (Y : FA g c F FL NB fa nf) {j f : Nat} (hj : j ∈ ino T) (hf : f < nf) (q : R (some (vi (bi (tk K (live K T) j FL f)))) g) : ∀ (n i : Nat) (av : Int32), i + n = f + 1 → (∀ k, k < i → bA (NB f) k = true → bA av k = tk K (live K T) j FL k) → (∀ k, i ≤ k → bA av k = false) → WP lim d j_It_matches 12 [some (vr (some c)), some (vi (nI f)), some (vr (some (na j))), some (vi (NB f)), some (vi av), some (vi (nI i))] [] g R X := by
  have h8 := Y.1
  obtain ⟨p1, p2, p3, p4⟩ := Y.2.2.2.2 f hf
  obtain ⟨h1, h2, h3, h4, h5⟩ := Y.2.2.1
  intro n
  induction n with
  | zero =>
    intro i av hi hA hz
    refine B_It_matches_12 ?_
    rw [if_pos (nI_lt (by omega) (by omega))]
    split
    · rename_i e; rw [bA_sh (by omega), hA f (by omega) p2] at e; rw [e] at q; exact ⟨rfl, Or.inr rfl, q⟩
    · rename_i e; rw [bA_sh (by omega), hA f (by omega) p2, Bool.not_eq_true] at e; rw [e] at q; exact ⟨rfl, Or.inl rfl, q⟩
  | succ n ih =>
    intro i av hi hA hz
    have hi8 : i < 8 := by omega
    have hin : i < nf := by omega
    obtain ⟨f1, f2, f3, f4⟩ := Y.2.2.2.1 i hin
    refine B_It_matches_12 ?_
    rw [if_neg (by rw [i_lt, nI_toInt (by omega), nI_toInt (by omega)]; omega)]
    simp only [h1, onR_s, h3, h4]
    refine ⟨O.1.1, by omega, ?_⟩
    rw [if_pos (nI_lt (by omega) (by omega)), nI_clamp (by omega), h5 i hin, nI_1]
    split
    · rename_i e
      rw [bA_sh (by omega)] at e
      refine ⟨O.1.1, trivial, ix_nI (by omega) (by decide), all1.mpr O.1.1, by omega, C_decide O (by omega) hj (by omega : i ≤ 8) f2 f3 (Y.2.2.2.2 i hin).1 (fun r hr hrf => hA r hr (p4 i e r hr hrf)) (onI_v ?_)⟩
      by_cases et : tk K (live K T) j FL i = true
      · rw [et, if_neg (by decide)]
        refine ih (i + 1) _ (by omega) (fun k hk hb => ?_) (fun k hk => ?_)
        · rw [bA_or, bA_bit hi8]
          by_cases ek : k = i
          · subst ek; rw [et]; simp
          · rw [decide_eq_false ek, Bool.or_false]; exact hA k (by omega) hb
        · rw [bA_or, bA_bit hi8, hz k (by omega), decide_eq_false (by omega)]; rfl
      · rw [Bool.not_eq_true] at et
        rw [et, if_pos (by rfl)]
        refine ih (i + 1) _ (by omega) (fun k hk hb => ?_) (fun k hk => hz k (by omega))
        by_cases ek : k = i
        · subst ek; rw [et]; exact hz k (Nat.le_refl _)
        · exact hA k (by omega) hb
    · rename_i e
      rw [bA_sh (by omega)] at e
      refine ih (i + 1) _ (by omega) (fun k hk hb => ?_) (fun k hk => hz k (by omega))
      by_cases ek : k = i
      · subst ek; exact (e hb).elim
      · exact hA k (by omega) hb
theorem C_matches (O : RO g c t b na K T N W) (hd : 4 < d) (Y : FA g c F FL NB fa nf) {j f : Nat} (hj : j ∈ ino T) (hf : f < nf) (q : R (some (vi (bi (tk K (live K T) j FL f)))) g) : WM lim d j_It_matches [vr (some c), vi (nI f), vr (some (na j))] g R X := by
  refine B_It_matches_0 ⟨all1.mpr O.1.1, by omega, C_needsOf O.1.1 Y hf (onI_v ?_)⟩
  exact C_mat12 O hd Y hj hf q (f + 1) 0 0 (by omega) (fun k hk => absurd hk (Nat.not_lt_zero _)) (fun k _ => bA_0)
end FILC
