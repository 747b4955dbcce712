/-! ===== what the reference's filters take ===== -/
section TAKES
variable {z : Nat × Nat} {d : Nat} {M : MT} {Q : Option AV → MT → Prop} {T : Tr} {N : Nat} {W : Int} {x y : Int32} {FL : Nat → List SP} {nf : Nat}
theorem stp33 {b n : Int32} : stp 33 b n = (3, 0, 0, 0) := by unfold stp; rw [if_pos rfl]
theorem stp38 {b n : Int32} : stp 38 b n = (4, 0, 0, 0) := by unfold stp; rw [if_neg (by decide), if_pos rfl]
theorem stp124 {b n : Int32} : stp 124 b n = (5, 0, 0, 0) := by unfold stp; rw [if_neg (by decide), if_neg (by decide), if_pos rfl]
theorem stp35 {b n : Int32} : stp 35 b n = (2, n, 0, 0) := by unfold stp; rw [if_neg (by decide), if_neg (by decide), if_neg (by decide), if_pos rfl]
theorem stp_el {w b n : Int32} (hw : ¬ w = 33 ∧ ¬ w = 38 ∧ ¬ w = 124 ∧ ¬ w = 35) : (stp w b n).1 = 0 ∧ (stp w b n).2.1 = w := by
  unfold stp; rw [if_neg hw.1, if_neg hw.2.1, if_neg hw.2.2.1, if_neg hw.2.2.2]; exact ⟨rfl, rfl⟩
theorem L_iw {i f n : Nat} {M0 : MT} {A : Nat → Bool} (hi : i < 500) (hf : f < 8) (hd : 1 < d) (hn : n ≤ 60) (h18 : M 18 f = nI n) (h21 : ∀ k, k < n → -10000 < (M 21 (60 * f + k)).toInt ∧ (M 21 (60 * f + k)).toInt < 10000)
    (hT : ∀ r, r < f → ∀ (M1 : MT) (Q : Option AV → MT → Prop), E22 M M1 → (∀ M2, E22 M M2 → (∀ k, 60 * (r + 1) ≤ k → M2 22 k = M1 22 k) → Q (some (vi (bi (A r)))) M2) → WQ z (d - 1) j_Mo_takes [vr (some 0), vi (nI r), vi (nI i)] M1 Q) :
    ∀ (m k : Nat) (st : List Bool) (M1 : MT), k + m = n → wf f ((List.range' k m).map (prt M f)) st.length → st.length ≤ 31 → E22 M M1 → (∀ j, 60 * (f + 1) ≤ j → M1 22 j = M0 22 j) → StkM M1 (60 * f) st → (∀ M2, E22 M M2 → (∀ j, 60 * (f + 1) ≤ j → M2 22 j = M0 22 j) → Q (some (vi (bi ((ev M (live M T) i A ((List.range' k m).map (prt M f)) st).headD false)))) M2) →
    WK z d j_Mo_isWritten 11 [some (vr (some 0)), some (vi (nI f)), some (vi (nI i)), some (vi (nI (60 * f + st.length))), some (vi (nI (60 * f + k)))] [] M1 Q := by
  intro m
  induction m with
  | zero =>
    intro k st M1 hk hw hl E h0 hs q
    refine M_isWritten_11 ?_
    rw [nI_60 hf, nI_clamp (by omega), E 18 _ (by decide), h18, nI_ad, if_neg (nI_nlt (by omega) (by omega)), nI_clamp (by omega)]
    match st, hw, hs, q with
    | [v], _, hs, q =>
      have e : M1 22 (60 * f) = bi v := hs.1
      rw [e]
      exact ⟨ix_nI hf (by decide), ix_nI (by omega) (by decide), bi_b01, q M1 E h0⟩
  | succ m ih =>
    intro k st M1 hk hw hl E h0 hs q
    rw [List.range'_succ, List.map_cons] at hw q
    have hx4 : ix (nI (60 * f + k)) 480 := ix_nI (by omega) (by decide)
    have hx3 : ix (nI (60 * f + st.length)) 480 := ix_nI (by omega) (by decide)
    have W0 := wf_step (K := M) (l := live M T) (i := i) (A := A) (by omega : f ≤ 8) hw
    refine M_isWritten_11 ⟨ix_nI hf (by decide), ?_⟩
    rw [nI_60 hf, nI_clamp (show f < 2 ^ 31 by omega), E 18 _ (by decide), h18, nI_ad, if_pos (nI_lt (by omega) (by omega)), nI_clamp (show 60 * f + k < 2 ^ 31 by omega), nI_1, E 19 _ (by decide)]
    refine ⟨hx4, ?_⟩
    have push : ∀ (b : Bool) (M2 : MT), pfm M (live M T) i A (prt M f k) st = b :: st → wf f ((List.range' (k + 1) m).map (prt M f)) (b :: st).length → st.length < 31 → E22 M M2 → (∀ j, 60 * (f + 1) ≤ j → M2 22 j = M0 22 j) → StkM M2 (60 * f) st → ix (nI (60 * f + st.length)) 480 ∧ b01 (bi b) ∧ WK z d j_Mo_isWritten 11 [some (vr (some 0)), some (vi (nI f)), some (vi (nI i)), some (vi (nI (60 * f + st.length) + 1)), some (vi (nI (60 * f + (k + 1))))] [] (up2 M2 22 (nI (60 * f + st.length)).toNatClampNeg (bi b)) Q := by
      intro b M2 hp hw' hl' E2 h02 hs2
      refine ⟨hx3, bi_b01, ?_⟩
      rw [nI_clamp (by omega), nI_1]
      refine ih (k + 1) (b :: st) _ (by omega) hw' hl' E2.up (fun j hj => (up2_ne (by omega)).trans (h02 j hj)) (StkM_set hs2) ?_
      rw [ev_cons, hp] at q; exact q
    have set : ∀ (v : Bool) (r : List Bool), pfm M (live M T) i A (prt M f k) st = v :: r → r.length + 1 ≤ st.length → wf f ((List.range' (k + 1) m).map (prt M f)) (v :: r).length → StkM M1 (60 * f) r → WK z d j_Mo_isWritten 11 [some (vr (some 0)), some (vi (nI f)), some (vi (nI i)), some (vi (nI (60 * f + (r.length + 1)))), some (vi (nI (60 * f + (k + 1))))] [] (up2 M1 22 (60 * f + r.length) (bi v)) Q := by
      intro v r hp hle hw' hs2
      refine ih (k + 1) (v :: r) _ (by omega) hw' (by rw [List.length_cons]; omega) E.up (fun j hj => (up2_ne (by omega)).trans (h0 j hj)) (StkM_set hs2) ?_
      rw [ev_cons, hp] at q; exact q
    by_cases w33 : M 19 (60 * f + k) = 33
    · rw [if_pos w33]
      have ep : prt M f k = (3, 0, 0, 0) := by unfold prt; rw [w33, stp33]
      rw [ep] at W0 hw q set
      rcases W0 with ⟨e, -⟩ | ⟨e, -⟩ | ⟨e, -⟩ | ⟨-, ⟨b0, r, es, p⟩, hn'⟩ | ⟨e, -⟩ | ⟨e, -⟩
      · exact absurd e (by decide)
      · exact absurd e (by decide)
      · exact absurd e (by decide)
      · subst es
        rw [p] at hn'
        rw [List.length_cons] at *
        have e1 : nI (60 * f + (r.length + 1)) - 1 = nI (60 * f + r.length) := by rw [nI_mm (by omega)]; rfl
        have hx : ix (nI (60 * f + r.length)) 480 := ix_nI (by omega) (by decide)
        rw [e1, nI_clamp (by omega), hs.1]
        refine ⟨hx, ?_⟩
        have s1 := set (!b0) r p (Nat.le_refl _) hn' hs.2
        cases b0 with
        | false => rw [if_pos (by rfl)]; exact ⟨hx, s1⟩
        | true => rw [if_neg (by decide)]; exact ⟨hx, s1⟩
      · exact absurd e (by decide)
      · exact absurd e (by decide)
    rw [if_neg w33]
    by_cases w35 : M 19 (60 * f + k) = 35
    · rw [if_pos w35]
      have ep : prt M f k = (2, M 21 (60 * f + k), 0, 0) := by unfold prt; rw [w35, stp35]
      rw [ep] at W0 hw q push
      rcases W0 with ⟨e, -⟩ | ⟨e, -⟩ | ⟨-, hl', ⟨r, hr, er, -, p⟩, hn'⟩ | ⟨e, -⟩ | ⟨e, -⟩ | ⟨e, -⟩
      · exact absurd (show (2 : Int32) = _ from e) (by decide)
      · exact absurd (show (2 : Int32) = _ from e) (by decide)
      · have er : M 21 (60 * f + k) = nI r := er
        rw [E 21 _ (by decide), er]
        rw [er] at p hn' push
        rw [p] at hn'
        refine ⟨hx4, by omega, hT r hr M1 _ E (fun M2 E2 k2 => onI_v (push (A r) M2 p hn' hl' E2 (fun j hj => (k2 j (by omega)).trans (h0 j hj)) (StkM_congr hs (fun j h1 h2 => k2 j (by omega)))))⟩
      · exact absurd (show (2 : Int32) = _ from e) (by decide)
      · exact absurd (show (2 : Int32) = _ from e) (by decide)
      · exact absurd (show (2 : Int32) = _ from e) (by decide)
    rw [if_neg w35]
    by_cases w38 : M 19 (60 * f + k) = 38
    · rw [if_pos w38]
      have ep : prt M f k = (4, 0, 0, 0) := by unfold prt; rw [w38, stp38]
      rw [ep] at W0 hw q set
      rcases W0 with ⟨e, -⟩ | ⟨e, -⟩ | ⟨e, -⟩ | ⟨e, -⟩ | ⟨-, ⟨a0, b0, r, es, p⟩, hn'⟩ | ⟨e, -⟩
      · exact absurd e (by decide)
      · exact absurd e (by decide)
      · exact absurd e (by decide)
      · exact absurd e (by decide)
      · subst es
        rw [p] at hn'
        have s1 := set (a0 && b0) r p (by simp) hn' hs.2.2
        have hb := hs.1
        have ha := hs.2.1
        rw [List.length_cons] at hb
        rw [List.length_cons, List.length_cons] at *
        have e0 : nI (60 * f + (r.length + 1 + 1)) + (-1) = nI (60 * f + (r.length + 1)) := by rw [nI_mp (by omega)]; rfl
        have e1 : nI (60 * f + (r.length + 1)) - 1 = nI (60 * f + r.length) := by rw [nI_mm (by omega)]; rfl
        have hx : ix (nI (60 * f + r.length)) 480 := ix_nI (by omega) (by decide)
        rw [e0, e1, nI_clamp (by omega), nI_clamp (by omega), ha, hb]
        refine ⟨hx, ?_⟩
        cases a0 with
        | false => rw [if_pos (by rfl)]; exact ⟨hx, fun M7 e => e ▸ s1⟩
        | true =>
          rw [if_neg (by decide)]
          refine ⟨ix_nI (by omega) (by decide), ?_⟩
          cases b0 with
          | false => rw [if_pos (by rfl)]; exact ⟨hx, fun M7 e => e ▸ s1⟩
          | true => rw [if_neg (by decide)]; exact ⟨hx, fun M7 e => e ▸ s1⟩
      · exact absurd e (by decide)
    rw [if_neg w38]
    by_cases w124 : M 19 (60 * f + k) = 124
    · rw [if_pos w124]
      have ep : prt M f k = (5, 0, 0, 0) := by unfold prt; rw [w124, stp124]
      rw [ep] at W0 hw q set
      rcases W0 with ⟨e, -⟩ | ⟨e, -⟩ | ⟨e, -⟩ | ⟨e, -⟩ | ⟨e, -⟩ | ⟨-, ⟨a0, b0, r, es, p⟩, hn'⟩
      · exact absurd e (by decide)
      · exact absurd e (by decide)
      · exact absurd e (by decide)
      · exact absurd e (by decide)
      · exact absurd e (by decide)
      · subst es
        rw [p] at hn'
        have s1 := set (a0 || b0) r p (by simp) hn' hs.2.2
        have hb := hs.1
        have ha := hs.2.1
        rw [List.length_cons] at hb
        rw [List.length_cons, List.length_cons] at *
        have e0 : nI (60 * f + (r.length + 1 + 1)) + (-1) = nI (60 * f + (r.length + 1)) := by rw [nI_mp (by omega)]; rfl
        have e1 : nI (60 * f + (r.length + 1)) - 1 = nI (60 * f + r.length) := by rw [nI_mm (by omega)]; rfl
        have hx : ix (nI (60 * f + r.length)) 480 := ix_nI (by omega) (by decide)
        rw [e0, e1, nI_clamp (by omega), nI_clamp (by omega), ha, hb]
        refine ⟨hx, ?_⟩
        cases a0 with
        | true => rw [if_neg (by decide)]; exact ⟨hx, fun M7 e => e ▸ s1⟩
        | false =>
          rw [if_pos (by rfl)]
          refine ⟨ix_nI (by omega) (by decide), ?_⟩
          cases b0 with
          | false => rw [if_pos (by rfl)]; exact ⟨hx, fun M7 e => e ▸ s1⟩
          | true => rw [if_neg (by decide)]; exact ⟨hx, fun M7 e => e ▸ s1⟩
    rw [if_neg w124]
    have hel : ¬ M 19 (60 * f + k) = 33 ∧ ¬ M 19 (60 * f + k) = 38 ∧ ¬ M 19 (60 * f + k) = 124 ∧ ¬ M 19 (60 * f + k) = 35 := ⟨w33, w38, w124, w35⟩
    have ep : (prt M f k).1 = 0 := (stp_el hel).1
    rcases W0 with ⟨-, hl', p, hn'⟩ | ⟨e, -⟩ | ⟨e, -⟩ | ⟨e, -⟩ | ⟨e, -⟩ | ⟨e, -⟩
    · rw [p] at hn'
      refine ⟨hx4, by omega, S_propF E hi (onI_v ⟨hx4, hx4, by omega, ?_⟩)⟩
      rw [E 20 _ (by decide), E 21 _ (by decide)]
      exact S_cmp (M := M) (w := M 19 (60 * f + k)) hel rfl (h21 k (by omega)) (onI_v (push _ M1 p hn' hl' E h0 hs))
    · rw [ep] at e; exact absurd e (by decide)
    · rw [ep] at e; exact absurd e (by decide)
    · rw [ep] at e; exact absurd e (by decide)
    · rw [ep] at e; exact absurd e (by decide)
    · rw [ep] at e; exact absurd e (by decide)
theorem RF.congr {M' : MT} {f : Nat} (h : RF M FL f) (E : ∀ a k, 14 ≤ a → a ≤ 21 → M' a k = M a k) : RF M' FL f := by
  have ep : prt M' f = prt M f := by
    funext k; unfold prt; rw [E 19 _ (by decide) (by decide), E 20 _ (by decide) (by decide), E 21 _ (by decide) (by decide)]
  unfold RF
  rw [E 14 _ (by decide) (by decide), E 15 _ (by decide) (by decide), E 16 _ (by decide) (by decide), E 17 _ (by decide) (by decide), E 18 _ (by decide) (by decide), ep]
  unfold RF at h
  rcases h with h | h | h | h | h | h | ⟨h1, n, h2, h3, h4, h5⟩
  · exact Or.inl h
  · exact Or.inr (Or.inl h)
  · exact Or.inr (Or.inr (Or.inl h))
  · exact Or.inr (Or.inr (Or.inr (Or.inl h)))
  · exact Or.inr (Or.inr (Or.inr (Or.inr (Or.inl h))))
  · exact Or.inr (Or.inr (Or.inr (Or.inr (Or.inr (Or.inl h)))))
  · exact Or.inr (Or.inr (Or.inr (Or.inr (Or.inr (Or.inr ⟨h1, n, h2, h3, h4, fun k hk => by rw [E 21 _ (by decide) (by decide)]; exact h5 k hk⟩)))))
theorem tk1 {i f : Nat} {s : SP} (h : FL f = [s]) : tk M (live M T) i FL f = (pfm M (live M T) i (ans M (live M T) i FL f) s []).headD false := by
  unfold tk; rw [h]; rfl
theorem tk_r {i f : Nat} {s : SP} (h : FL f = [s]) (h0 : s.1 = 0) : tk M (live M T) i FL f = inr M i s := by
  rw [tk1 h]; unfold pfm; rw [if_pos h0]; rfl
theorem S_takes (I : TI M T N W) (h8 : nf ≤ 8) (hF : ∀ f, f < nf → wf f (FL f) 0 ∧ RF M FL f) {i : Nat} (hi : i < 500) : ∀ (f d : Nat) (M1 : MT) (Q : Option AV → MT → Prop), f < nf → 2 * f + 3 < d → E22 M M1 → (∀ M2, E22 M M2 → (∀ k, 60 * (f + 1) ≤ k → M2 22 k = M1 22 k) → Q (some (vi (bi (tk M (live M T) i FL f)))) M2) → WQ z d j_Mo_takes [vr (some 0), vi (nI f), vi (nI i)] M1 Q := by
  intro f
  induction f using Nat.strongRecOn with
  | _ f ih =>
  intro d M1 Q hf hd E q
  have hx8 : ix (nI f) 8 := ix_nI (by omega) (by decide)
  have hx5 : ix (nI i) 500 := ix_nI hi (by decide)
  obtain ⟨hw, hR⟩ := hF f hf
  have q0 := q M1 E (fun _ _ => rfl)
  refine M_takes_0 ⟨hx8, ?_⟩
  rw [nI_clamp (by omega), nI_clamp (by omega), E 14 _ (by decide), E 15 _ (by decide), E 16 _ (by decide), E 1 _ (by decide), E 2 _ (by decide), E 3 _ (by decide)]
  have m1 : (-2147483648 : Int32).toInt = -2147483648 := rfl
  have m2 : (2147483647 : Int32).toInt = 2147483647 := rfl
  rcases hR with ⟨h, e⟩ | ⟨h, e⟩ | ⟨h, e⟩ | ⟨h, e⟩ | ⟨h, e, hlt⟩ | ⟨h, r1, r2, hr1, hr2, e1, e2, e⟩ | ⟨h, n, hn, h18, e, h21⟩
  · rw [if_pos h]
    rw [tk_r e rfl] at q0
    unfold inr at q0
    have rg := i_rng (fval M i 3)
    rw [decide_eq_true (by simp only [m1, m2]; omega)] at q0; exact q0
  · rw [if_neg (by rw [h]; decide), if_pos h]
    rw [tk_r e rfl] at q0
    unfold inr at q0
    refine ⟨hx5, hx5, ?_⟩
    have ev : fval M i 3 = M 2 i - M 1 i := rfl
    simp only [ev, i_0] at q0
    split
    · rename_i c
      rw [c, Int32.sub_self, i_0, decide_eq_true (by omega)] at q0; exact q0
    · rename_i c
      rw [decide_eq_false (fun z => c (by
        have : M 2 i - M 1 i = 0 := by rw [i_eq, i_0]; omega
        have h2 := Int32.sub_add_cancel (M 2 i) (M 1 i); rw [this, Int32.zero_add] at h2; exact h2))] at q0; exact q0
  · rw [if_neg (by rw [h]; decide), if_neg (by rw [h]; decide), if_pos h]
    have e' : tk M (live M T) i FL f = ovA M (live M T) i := by rw [tk1 e]; rfl
    rw [e'] at q0
    refine ⟨by omega, M_overlapsAny_0 ?_⟩
    rw [← nI_0]
    exact L_oA I E (by omega) hi (onI_v ⟨bi_b01, q0⟩) N 0 (by omega) (fun o ho => absurd ho (Nat.not_lt_zero _))
  · rw [if_neg (by rw [h]; decide), if_neg (by rw [h]; decide), if_neg (by rw [h]; decide), if_pos h]
    rw [tk_r e rfl] at q0
    unfold inr at q0
    refine ⟨hx8, by omega, S_propF E hi (onI_v ⟨hx8, hx8, by omega, ?_⟩)⟩
    rw [E 17 _ (by decide), E 16 _ (by decide)]
    refine S_in (fun c => ?_) (fun c => ?_)
    · rw [decide_eq_true c] at q0; exact onI_v ⟨Or.inr rfl, q0⟩
    · rw [decide_eq_false c] at q0; exact onI_v ⟨Or.inl rfl, q0⟩
  · rw [if_neg (by rw [h]; decide), if_neg (by rw [h]; decide), if_neg (by rw [h]; decide), if_neg (by rw [h]; decide), if_pos h]
    rw [tk_r e rfl] at q0
    unfold inr at q0
    have rg := i_rng (M 3 i)
    have rg2 := i_rng (M 15 f)
    have ev : fval M i 2 = M 3 i := rfl
    have ea : (M 15 f + 1).toInt = (M 15 f).toInt + 1 := by rw [i_add (by rw [i_1]; omega) (by rw [i_1]; omega), i_1]
    simp only [ev, m2, ea] at q0
    refine ⟨hx5, hx8, ?_⟩
    split
    · rename_i c; rw [i_lt] at c; rw [decide_eq_true (by omega)] at q0; exact q0
    · rename_i c; rw [i_lt] at c; rw [decide_eq_false (by omega)] at q0; exact q0
  · rw [if_neg (by rw [h]; decide), if_neg (by rw [h]; decide), if_neg (by rw [h]; decide), if_neg (by rw [h]; decide), if_neg (by rw [h]; decide), if_pos h, e1]
    refine ⟨hx8, by omega, ih r1 hr1 (d - 1) M1 _ (by omega) (by omega) E (fun M2 E2 k2 => onI_v ⟨hx8, by omega, ?_⟩)⟩
    rw [E2 17 _ (by decide), e2]
    refine ih r2 hr2 (d - 1) M2 _ (by omega) (by omega) E2 (fun M3 E3 k3 => onI_v ⟨hx8, ?_⟩)
    have q1 := q M3 E3 (fun k hk => (k3 k (by omega)).trans (k2 k (by omega)))
    have t1 : tk M (live M T) i FL f = (ev M (live M T) i (fun r => tk M (live M T) i FL r) (FL f) []).headD false := (tk_of (by omega) hw (fun r _ _ => rfl)).symm
    rw [t1, e] at q1
    rw [E3 15 _ (by decide)]
    have p2 : ∀ (A : Nat → Bool) (r : Nat) (st : List Bool), r < f → pfm M (live M T) i A (2, nI r, 0, 0) st = A r :: st := by
      intro A r st hr
      show A (nI r).toNatClampNeg :: st = _
      rw [nI_clamp (by omega)]
    unfold cmb at q1
    split
    · rename_i c
      rw [if_pos c, ev_cons, p2 _ _ _ hr1, ev_cons, p2 _ _ _ hr2] at q1
      have q1 : Q (some (vi (bi (tk M (live M T) i FL r1 && tk M (live M T) i FL r2)))) M3 := q1
      cases h1 : tk M (live M T) i FL r1 with
      | false => rw [if_pos (by rfl)]; rw [h1] at q1; exact q1
      | true =>
        rw [if_neg (by decide)]
        cases h2 : tk M (live M T) i FL r2 with
        | false => rw [if_pos (by rfl)]; rw [h1, h2] at q1; exact q1
        | true => rw [if_neg (by decide)]; rw [h1, h2] at q1; exact q1
    · rename_i c
      rw [if_neg c] at q1
      refine ⟨hx8, ?_⟩
      split
      · rename_i c
        rw [if_pos c, ev_cons, p2 _ _ _ hr1, ev_cons, p2 _ _ _ hr2] at q1
        have q1 : Q (some (vi (bi (tk M (live M T) i FL r1 || tk M (live M T) i FL r2)))) M3 := q1
        cases h1 : tk M (live M T) i FL r1 with
        | true => rw [if_neg (by decide)]; rw [h1] at q1; exact q1
        | false =>
          rw [if_pos (by rfl)]
          cases h2 : tk M (live M T) i FL r2 with
          | false => rw [if_pos (by rfl)]; rw [h1, h2] at q1; exact q1
          | true => rw [if_neg (by decide)]; rw [h1, h2] at q1; exact q1
      · rename_i c
        rw [if_neg c, ev_cons, p2 _ _ _ hr1, ev_cons, p2 _ _ _ hr2] at q1
        have q1 : Q (some (vi (bi (tk M (live M T) i FL r1 && !tk M (live M T) i FL r2)))) M3 := q1
        cases h1 : tk M (live M T) i FL r1 with
        | false => rw [if_pos (by rfl)]; rw [h1] at q1; exact q1
        | true =>
          rw [if_neg (by decide)]
          cases h2 : tk M (live M T) i FL r2 with
          | false => rw [if_pos (by rfl)]; rw [h1, h2] at q1; exact q1
          | true => rw [if_neg (by decide)]; rw [h1, h2] at q1; exact q1
  · rw [if_neg (by rw [h]; decide), if_neg (by rw [h]; decide), if_neg (by rw [h]; decide), if_neg (by rw [h]; decide), if_neg (by rw [h]; decide), if_neg (by rw [h]; decide)]
    refine ⟨by omega, M_isWritten_0 ?_⟩
    rw [nI_60 (by omega)]
    have := L_iw (z := z) (d := d - 1) (M := M) (Q := fun v37 M36 => onI v37 fun x39 => b01 x39 ∧ Q (some (vi x39)) M36) (T := T) (M0 := M1) (A := fun r => tk M (live M T) i FL r) hi (by omega : f < 8) (by omega) hn h18 h21 (fun r hr M2 Q2 E2 q2 => ih r hr (d - 1 - 1) M2 Q2 (by omega) (by omega) E2 q2) n 0 [] M1 (by omega) (e ▸ hw) (by decide) E (fun _ _ => rfl) trivial (fun M2 E2 k2 => by
      have t1 : tk M (live M T) i FL f = (ev M (live M T) i (fun r => tk M (live M T) i FL r) (FL f) []).headD false := (tk_of (by omega) hw (fun r _ _ => rfl)).symm
      rw [← e, ← t1]
      exact onI_v ⟨bi_b01, q M2 E2 k2⟩)
    exact this
end TAKES
