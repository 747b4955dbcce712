/-! ===== the class's reader: all ===== -/
section RDQ
variable {h0 g : AHp} {A : Nat → Prop} {tx : Nat} {t8 : Nat → Int32} {n r a q : Nat} {cs ws : List Nat} {out W : List SP} {nf p oc rf : Nat} {due : Bool} {lim : Nat × Nat} {d : Nat} {R : RT} {X : XT} {k x y u : Int32}
theorem PI.bad (P : PI h0 g A tx t8 n nf r a p due oc rf out W) (hp : p ≤ 60) : BadP h0 g A tx t8 n r a p := by
  obtain ⟨cs, ws, J, I⟩ := P
  exact ⟨⟨p, cs, ws, out, W, J, hp⟩, I.2.2.1⟩
theorem C_cmpC (hd : 3 < d) (hn : n ≤ 60) (hz : hsz h0 + 70 ≤ lim.1) (hu : hsu h0 + 400 ≤ lim.2) (J : PJ h0 g A tx t8 n r a p cs ws out W) (I : RI g r n nf p due oc rf) (hp : p < n) (q1 : ∀ g' s p', cmA t8 n p = (some s, p') → p' ≤ n → PI h0 g' A tx t8 n nf r a p' false oc rf (out ++ [s]) W → R (some (vi 1)) g') (q2 : ∀ g' p', cmA t8 n p = (none, p') → BadP h0 g' A tx t8 n r a p' → R (some (vi 0)) g') : WM lim d j_Te_readComparison [vr (some r)] g R X := by
  have kr := J.kr
  refine B_Te_readComparison_0 ⟨all1.mpr kr, by omega, C_peek J I (by omega) hn (onI_v ⟨by omega, C_prop (onI_v ?_)⟩)⟩
  by_cases c : prA (sgA t8 n p) = -1
  · rw [if_pos c]
    refine ⟨rfl, Or.inl rfl, q2 g p ?_ ⟨⟨p, cs, ws, out, W, J, by omega⟩, I.2.2.1⟩⟩
    unfold cmA; rw [if_pos c]
  · rw [if_neg c]
    have hx := (stp_pr (b := 0) (v := 0) c).2
    refine ⟨kr, kr, ?_⟩
    rw [adv_e I]
    have J1 : PJ h0 (sI g r 4 (nI (p + 1))) A tx t8 n r a p cs ws out W := J.sI
    have I1 : RI (sI g r 4 (nI (p + 1))) r n nf (p + 1) due oc rf := I.pos
    generalize sI g r 4 (nI (p + 1)) = g1 at J1 I1
    have kr1 := J1.kr
    refine ⟨all1.mpr kr1, by omega, C_peek J1 I1 (by omega) hn (onI_v ?_)⟩
    have br : (sgA t8 n (p + 1) = 60 ∨ sgA t8 n (p + 1) = 61 ∨ sgA t8 n (p + 1) = 62) → (hk g1 r = 4 ∧ hk g1 r = 4 ∧ (∀ q ∈ [((0 : Int), (4 : Nat))], hk (sI g1 r 4 (hI g1 r 4 + (1 : Int32))) r = q.2) ∧ 0 < d ∧ WM lim (d - 1) j_Te_peek [vr (some r)] (sI g1 r 4 (hI g1 r 4 + (1 : Int32))) (fun v11 h10 => onI v11 fun x12 => if x12 = (45 : Int32) then (hk h10 r = 4 ∧ hk h10 r = 4 ∧ WP lim d j_Te_readComparison 89 [some (vr (some r)), some (vi (prA (sgA t8 n p))), some (vi (sgA t8 n (p + 1))), some (vi (1 : Int32)), none, none, none, none] [] (sI h10 r 4 (hI h10 r 4 + (1 : Int32))) R X) else (WP lim d j_Te_readComparison 89 [some (vr (some r)), some (vi (prA (sgA t8 n p))), some (vi (sgA t8 n (p + 1))), some (vi (0 : Int32)), none, none, none, none] [] h10 R X)) (X)) := by
      intro hc
      have hp1 : p + 1 < n := by
        rcases hc with h | h | h
        · exact (lt_of_sg h (by decide)).1
        · exact (lt_of_sg h (by decide)).1
        · exact (lt_of_sg h (by decide)).1
      refine ⟨kr1, kr1, ?_⟩
      rw [adv_e I1]
      have J2 : PJ h0 (sI g1 r 4 (nI (p + 1 + 1))) A tx t8 n r a p cs ws out W := J1.sI
      have I2 : RI (sI g1 r 4 (nI (p + 1 + 1))) r n nf (p + 2) due oc rf := I1.pos
      generalize sI g1 r 4 (nI (p + 1 + 1)) = g2 at J2 I2
      have kr2 := J2.kr
      have ecm : cmA t8 n p = (if sgA t8 n (p + 2) = 45 then
      (if isDA (sgA t8 n (p + 3)) then (some (stp (prA (sgA t8 n p)) (sgA t8 n (p + 1)) (-(dgA t8 n 4 (p + 3) 0).1)), (dgA t8 n 4 (p + 3) 0).2) else (none, p + 3))
    else
      (if isDA (sgA t8 n (p + 2)) then (some (stp (prA (sgA t8 n p)) (sgA t8 n (p + 1)) (dgA t8 n 4 (p + 2) 0).1), (dgA t8 n 4 (p + 2) 0).2) else (none, p + 2))) := by
        unfold cmA; rw [if_neg c, if_pos hc]
      refine ⟨all1.mpr kr2, by omega, C_peek J2 I2 (by omega) hn (onI_v ?_)⟩
      split
      · rename_i c2
        have hp2 := (lt_of_sg c2 (by decide)).1
        rw [if_pos c2] at ecm
        refine ⟨kr2, kr2, ?_⟩
        rw [adv_e I2]
        have I3 : RI (sI g2 r 4 (nI (p + 2 + 1))) r n nf (p + 3) due oc rf := I2.pos
        refine C_c89 (by omega) hn hz hu J2.sI I3 (by omega) (by omega) hx hc (fun hdg g' P => ?_) (fun hdg => ?_)
        · rw [if_neg (by decide)] at P
          rw [if_pos hdg] at ecm
          exact q1 g' _ _ ecm (dgA_n (M0 := fun _ => t8) 4 (p + 3) 0 (by omega)) P
        · rw [if_neg hdg] at ecm
          exact q2 _ _ ecm ⟨⟨p, cs, ws, out, W, J2.sI, by omega⟩, I3.2.2.1⟩
      · rename_i c2
        rw [if_neg c2] at ecm
        refine C_c89 (by omega) hn hz hu J2 I2 (by omega) (by omega) hx hc (fun hdg g' P => ?_) (fun hdg => ?_)
        · rw [if_pos rfl] at P
          rw [if_pos hdg] at ecm
          exact q1 g' _ _ ecm (dgA_n (M0 := fun _ => t8) 4 (p + 2) 0 (by omega)) P
        · rw [if_neg hdg] at ecm
          exact q2 _ _ ecm ⟨⟨p, cs, ws, out, W, J2, by omega⟩, I2.2.2.1⟩
    split
    · rename_i c; exact br (Or.inl c)
    · rename_i c1
      split
      · rename_i c; exact br (Or.inr (Or.inl c))
      · rename_i c2
        split
        · rename_i c; exact br (Or.inr (Or.inr c))
        · rename_i c3
          refine ⟨rfl, Or.inl rfl, q2 g1 (p + 1) ?_ ⟨⟨p, cs, ws, out, W, J1, by omega⟩, I1.2.2.1⟩⟩
          unfold cmA
          rw [if_neg c, if_neg (fun h => by
            rcases h with h | h | h
            · exact c1 h
            · exact c2 h
            · exact c3 h)]
theorem sg_rng (ht : ∀ k, k < n → ix (t8 k) 256) : -1 ≤ (sgA t8 n p).toInt ∧ (sgA t8 n p).toInt ≤ 255 := by
  unfold sgA
  split
  · rename_i h
    have := ix_iff.mp (ht p h)
    omega
  · have : (-1 : Int32).toInt = -1 := rfl
    omega
theorem C_refC (hd : 3 < d) (hn : n ≤ 60) (hnf : nf ≤ 8) (hz : hsz h0 + 70 ≤ lim.1) (hu : hsu h0 + 400 ≤ lim.2) (ht : ∀ k, k < n → ix (t8 k) 256) (J : PJ h0 g A tx t8 n r a p cs ws out W) (I : RI g r n nf p due oc rf) (hp : p < n) (hrf : rf ≤ 2) (q1 : ∀ g' s p', rfA t8 n nf p rf = (some s, p') → p' ≤ n → PI h0 g' A tx t8 n nf r a p' false oc (rf + 1) (out ++ [s]) W → R (some (vi 1)) g') (q2 : ∀ g' p', rfA t8 n nf p rf = (none, p') → BadP h0 g' A tx t8 n r a p' → R (some (vi 0)) g') : WM lim d j_Te_readReference [vr (some r)] g R X := by
  have kr := J.kr
  have a2 : (2 : Int32).toInt = 2 := rfl
  have a0 : (48 : Int32).toInt = 48 := rfl
  have rg := sg_rng (p := p + 1) ht
  have ev : (sgA t8 n (p + 1) - 48).toInt = (sgA t8 n (p + 1)).toInt - 48 := by rw [i_sub (by rw [a0]; omega) (by rw [a0]; omega), a0]
  refine B_Te_readReference_0 ⟨kr, ?_⟩
  rw [I.2.2.2.2.2]
  by_cases c : 2 ≤ rf
  · rw [if_neg (by rw [i_lt, nI_toInt (by omega), a2]; omega)]
    refine ⟨rfl, Or.inl rfl, q2 g p ?_ ⟨⟨p, cs, ws, out, W, J, by omega⟩, I.2.2.1⟩⟩
    unfold rfA; rw [if_pos c]
  · rw [if_pos (by rw [i_lt, nI_toInt (by omega), a2]; omega)]
    refine ⟨kr, kr, ?_⟩
    rw [adv_e I]
    have J1 : PJ h0 (sI g r 4 (nI (p + 1))) A tx t8 n r a p cs ws out W := J.sI
    have I1 : RI (sI g r 4 (nI (p + 1))) r n nf (p + 1) due oc rf := I.pos
    generalize sI g r 4 (nI (p + 1)) = g1 at J1 I1
    have kr1 := J1.kr
    have bad : ¬ (0 ≤ (sgA t8 n (p + 1) - 48).toInt ∧ (sgA t8 n (p + 1) - 48).toInt < nf) → R (some (vi 0)) g1 := fun h => q2 g1 (p + 1) (by unfold rfA; rw [if_neg c, if_neg h]) ⟨⟨p, cs, ws, out, W, J1, by omega⟩, I1.2.2.1⟩
    refine ⟨all1.mpr kr1, by omega, C_peek J1 I1 (by omega) hn (onI_v ?_)⟩
    split
    · rename_i c1; rw [i_lt, i_0] at c1; exact ⟨rfl, Or.inl rfl, bad (by omega)⟩
    · rename_i c1; rw [i_lt, i_0] at c1
      refine ⟨kr1, ?_⟩
      rw [I1.2.1]
      split
      · rename_i c2; rw [i_lt, nI_toInt (by omega)] at c2
        have hp1 : p + 1 < n := by
          by_cases c : p + 1 < n
          · exact c
          · have e : sgA t8 n (p + 1) = -1 := if_neg c
            rw [e] at ev c1
            have : (-1 : Int32).toInt = -1 := rfl
            omega
        refine ⟨kr1, kr1, ?_⟩
        rw [adv_e I1]
        have J2 : PJ h0 (sI g1 r 4 (nI (p + 1 + 1))) A tx t8 n r a p cs ws out W := J1.sI
        have I2 : RI (sI g1 r 4 (nI (p + 1 + 1))) r n nf (p + 2) due oc rf := I1.pos
        generalize sI g1 r 4 (nI (p + 1 + 1)) = g2 at J2 I2
        have kr2 := J2.kr
        refine ⟨kr2, kr2, ?_⟩
        have e7 : hI g2 r 7 + 1 = nI (rf + 1) := by rw [I2.2.2.2.2.2, nI_1]
        rw [e7]
        have J3 : PJ h0 (sI g2 r 7 (nI (rf + 1))) A tx t8 n r a p cs ws out W := J2.sI
        have I3 : RI (sI g2 r 7 (nI (rf + 1))) r n nf (p + 2) due oc (rf + 1) := I2.setR
        show hk (sI g2 r 7 (nI (rf + 1))) r = 4 ∧ _
        generalize sI g2 r 7 (nI (rf + 1)) = g3 at J3 I3
        have kr3 := J3.kr
        have jz := J3.2.2.2.2.2.2
        refine ⟨kr3, by omega, C_referenceStep (by omega) (by omega) (by omega) (fun g4 nw => onO_v ?_)⟩
        rw [J3.2.2.1.2.2.2.1, onR_s]
        refine ⟨all1.mpr (nw.snd J3.2.2.2.1).1, by omega, C_app J3 nw (fun g5 cs5 J5 e5 => ⟨J5.kr, Or.inl rfl, rfl, Or.inr rfl, q1 _ (2, sgA t8 n (p + 1) - 48, 0, 0) (p + 2) ?_ (by omega) ⟨cs5, ws, J5.sI.mono (by omega), (I3.same e5).setD (b := false)⟩⟩)⟩
        unfold rfA; rw [if_neg c, if_pos (by omega)]
      · rename_i c2; rw [i_lt, nI_toInt (by omega)] at c2
        exact ⟨rfl, Or.inl rfl, bad (by omega)⟩
theorem C_factor (hd : 4 < d) (hn : n ≤ 60) (hnf : nf ≤ 8) (hz : hsz h0 + 70 ≤ lim.1) (hu : hsu h0 + 400 ≤ lim.2) (ht : ∀ k, k < n → ix (t8 k) 256) (P : PI h0 g A tx t8 n nf r a p true oc rf out W) (hp : p < n) (hrf : rf ≤ 2) (hoc : oc ≤ p) {f : Nat} {res : Option (List SP) × Nat} (hr : rnA t8 n nf (f + 1) p true oc rf out W = some res) (q1 : ∀ g' p' due' oc' rf' out' W', PR h0 g' A tx t8 n nf r a p' due' oc' rf' out' W' → p < p' → p' ≤ n → rf' ≤ 2 → oc' ≤ p' → rnA t8 n nf f p' due' oc' rf' out' W' = some res → R (some (vi 1)) g') (q2 : ∀ g' p', res = (none, p') → BadP h0 g' A tx t8 n r a p' → R (some (vi 0)) g') : WM lim d j_Te_readFactor [vr (some r)] g R X := by
  obtain ⟨cs, ws, J, I⟩ := P
  have kr := J.kr
  rw [rnA, if_pos hp, if_pos rfl] at hr
  have es : sgA t8 n p = t8 p := if_pos hp
  have J1 : PJ h0 (sI g r 4 (nI (p + 1))) A tx t8 n r a p cs ws out W := J.sI
  have I1 : RI (sI g r 4 (nI (p + 1))) r n nf (p + 1) true oc rf := I.pos
  refine B_Te_readFactor_0 ⟨all1.mpr kr, by omega, C_peek J I (by omega) hn (onI_v ?_)⟩
  rw [es]
  by_cases h1 : t8 p = 33
  · rw [if_pos h1] at hr ⊢
    rw [adv_e I]
    refine ⟨kr, kr, all1.mpr J1.kr, by omega, C_await (by omega) J1 (by omega) (by omega) (fun g2 ws2 J2 e2 => ⟨rfl, Or.inr rfl, q1 g2 _ _ _ _ _ _ ⟨_, _, ⟨cs, ws2, J2, I1.same e2⟩, Rl3.tt⟩ (by omega) (by omega) hrf (by omega) hr⟩)⟩
  rw [if_neg h1] at hr ⊢
  by_cases h2 : t8 p = 40
  · rw [if_pos h2] at hr ⊢
    rw [adv_e I]
    refine ⟨kr, kr, J1.kr, J1.kr, ?_⟩
    generalize sI g r 4 (nI (p + 1)) = g1 at J1 I1
    have e6 : hI g1 r 6 + 1 = nI (oc + 1) := by rw [I1.2.2.2.2.1, nI_1]
    rw [e6]
    have J2 : PJ h0 (sI g1 r 6 (nI (oc + 1))) A tx t8 n r a p cs ws out W := J1.sI
    have I2 : RI (sI g1 r 6 (nI (oc + 1))) r n nf (p + 1) true (oc + 1) rf := I1.setO
    exact ⟨all1.mpr J2.kr, by omega, C_await (by omega) J2 (by omega) (by omega) (fun g2 ws2 J2 e2 => ⟨rfl, Or.inr rfl, q1 g2 _ _ _ _ _ _ ⟨_, _, ⟨cs, ws2, J2, I2.same e2⟩, Rl3.tt⟩ (by omega) (by omega) hrf (by omega) hr⟩)⟩
  rw [if_neg h2] at hr ⊢
  by_cases h3 : t8 p = 35
  · rw [if_pos h3] at hr ⊢
    refine ⟨all1.mpr kr, by omega, C_refC (by omega) hn hnf hz hu ht J I hp hrf (fun g' s p' e hp' P' => onI_v ⟨rfl, Or.inr rfl, ?_⟩) (fun g' p' e B => onI_v ⟨rfl, Or.inl rfl, ?_⟩)⟩
    · rw [e] at hr
      obtain ⟨e1, e2, -⟩ := rfA_eq e
      exact q1 g' _ _ _ _ _ _ ⟨_, _, P', Rl3.ff⟩ (by omega) hp' (by omega) (by omega) hr
    · rw [e] at hr
      exact q2 g' p' (Option.some.inj hr).symm B
  rw [if_neg h3] at hr ⊢
  refine ⟨all1.mpr kr, by omega, C_cmpC (by omega) hn hz hu J I hp (fun g' s p' e hp' P' => onI_v ⟨rfl, Or.inr rfl, ?_⟩) (fun g' p' e B => onI_v ⟨rfl, Or.inl rfl, ?_⟩)⟩
  · rw [e] at hr
    have := cmA_lt e
    exact q1 g' _ _ _ _ _ _ ⟨_, _, P', Rl3.ff⟩ (by omega) hp' hrf (by omega) hr
  · rw [e] at hr
    exact q2 g' p' (Option.some.inj hr).symm B
theorem C_operator (hd : 4 < d) (hn : n ≤ 60) (hnf : nf ≤ 8) (hz : hsz h0 + 70 ≤ lim.1) (hu : hsu h0 + 400 ≤ lim.2) (P : PI h0 g A tx t8 n nf r a p false oc rf out W) (hp : p < n) (hrf : rf ≤ 2) (hoc : oc ≤ p) {f : Nat} {res : Option (List SP) × Nat} {out0 W0 : List SP} (hl : Rl3 false out W out0 W0) (hr : rnA t8 n nf (f + 1) p false oc rf out0 W0 = some res) (q1 : ∀ g' p' due' oc' rf' out' W', PR h0 g' A tx t8 n nf r a p' due' oc' rf' out' W' → p < p' → p' ≤ n → rf' ≤ 2 → oc' ≤ p' → rnA t8 n nf f p' due' oc' rf' out' W' = some res → R (some (vi 1)) g') (q2 : ∀ g' p', res = (none, p') → BadP h0 g' A tx t8 n r a p' → R (some (vi 0)) g') : WM lim d j_Te_readOperator [vr (some r)] g R X := by
  obtain ⟨cs, ws, J, I⟩ := P
  have kr := J.kr
  rw [rnA, if_pos hp, if_neg (by decide), hl.eq (k := 5) (by decide), hl.eq (k := 4) (by decide)] at hr
  have es : sgA t8 n p = t8 p := if_pos hp
  have J1 : PJ h0 (sI g r 4 (nI (p + 1))) A tx t8 n r a p cs ws out W := J.sI
  have I1 : RI (sI g r 4 (nI (p + 1))) r n nf (p + 1) false oc rf := I.pos
  have bad : res = (none, p) → R (some (vi 0)) g := fun e => q2 g p e ⟨⟨p, cs, ws, out, W, J, by omega⟩, I.2.2.1⟩
  refine B_Te_readOperator_0 ⟨all1.mpr kr, by omega, C_peek J I (by omega) hn (onI_v ?_)⟩
  rw [es, adv_e I]
  generalize sI g r 4 (nI (p + 1)) = g1 at J1 I1
  by_cases h1 : t8 p = 124
  · rw [if_pos h1] at hr
    rw [if_pos h1, if_pos h1]
    refine ⟨kr, kr, all1.mpr J1.kr, by omega, C_rel (by omega) J1 (fun g2 cs2 ws2 J2 e2 => ⟨all1.mpr J2.kr, by omega, C_await (by omega) J2 (by omega) (by omega) (fun g3 ws3 J3 e3 => ⟨J3.kr, Or.inr rfl, rfl, Or.inr rfl, ?_⟩)⟩)⟩
    exact q1 _ _ _ _ _ _ _ ⟨_, _, ⟨cs2, ws3, J3.sI, (I1.same (e3.trans e2)).setD (b := true)⟩, Rl3.tt⟩ (by omega) (by omega) hrf (by omega) hr
  rw [if_neg h1] at hr
  rw [if_neg h1]
  by_cases h2 : t8 p = 38
  · rw [if_pos h2] at hr
    rw [if_pos h2, if_neg h1]
    refine ⟨kr, kr, all1.mpr J1.kr, by omega, C_rel (by omega) J1 (fun g2 cs2 ws2 J2 e2 => ⟨all1.mpr J2.kr, by omega, C_await (by omega) J2 (by omega) (by omega) (fun g3 ws3 J3 e3 => ⟨J3.kr, Or.inr rfl, rfl, Or.inr rfl, ?_⟩)⟩)⟩
    exact q1 _ _ _ _ _ _ _ ⟨_, _, ⟨cs2, ws3, J3.sI, (I1.same (e3.trans e2)).setD (b := true)⟩, Rl3.tt⟩ (by omega) (by omega) hrf (by omega) hr
  rw [if_neg h2] at hr
  rw [if_neg h2]
  by_cases h3 : t8 p = 41
  · rw [if_pos h3]
    refine ⟨kr, ?_⟩
    rw [I.2.2.2.2.1]
    by_cases h4 : 0 < oc
    · rw [if_pos ⟨h3, h4⟩] at hr
      rw [if_pos (by rw [i_lt, nI_toInt (by omega), i_0]; omega)]
      refine ⟨kr, kr, J1.kr, J1.kr, ?_⟩
      have e6 : hI g1 r 6 - 1 = nI (oc - 1) := by rw [I1.2.2.2.2.1, nI_mm h4]
      rw [e6]
      have J2 : PJ h0 (sI g1 r 6 (nI (oc - 1))) A tx t8 n r a p cs ws out W := J1.sI
      have I2 : RI (sI g1 r 6 (nI (oc - 1))) r n nf (p + 1) false (oc - 1) rf := I1.setO
      show (∀ q ∈ [((0 : Int), (4 : Nat))], hk (sI g1 r 6 (nI (oc - 1))) r = q.2) ∧ _
      generalize sI g1 r 6 (nI (oc - 1)) = g2 at J2 I2
      refine ⟨all1.mpr J2.kr, by omega, C_rel (by omega) J2 (fun g3 cs3 ws3 J3 e3 => ⟨J3.kr, ?_⟩)⟩
      have I3 := I2.same e3
      rw [J3.2.2.1.2.2.2.2]
      cases ws3 with
      | nil =>
        have hw : (rlA 5 out W).2 = [] := by
          cases hw : (rlA 5 out W).2 with
          | nil => rfl
          | cons _ _ => have := J3.2.2.2.2.1; rw [hw] at this; exact this.elim
        rw [hw] at J3 hr
        exact ⟨rfl, Or.inr rfl, q1 _ _ _ _ _ _ _ ⟨_, _, ⟨cs3, [], J3.mono (by omega), I3⟩, Rl3.ff⟩ (by omega) (by omega) hrf (by omega) hr⟩
      | cons w ws3 =>
        cases hw : (rlA 5 out W).2 with
        | nil => have := J3.2.2.2.2.1; rw [hw] at this; exact this.elim
        | cons s W3 =>
          rw [hw] at J3 hr
          obtain ⟨n1, n2, n3, n4, n5⟩ := J3.ne
          have kr3 := J3.kr
          obtain ⟨j1, j2, j3, j4, ⟨c1, c2, c3, c4, c5⟩, j6, j7⟩ := J3
          show ifN (some w) _ _
          rw [ifN_s]
          show _ ∧ onR (some w) _
          rw [onR_s, c4]
          have offP : ∀ x, x ≠ r → hP (sP g3 r 8 ws3.head?) x = hP g3 x := fun x hx => by rw [hP_sP]; exact up2_off _ hx
          have J5 : PJ h0 (sP g3 r 8 ws3.head?) A tx t8 n r a p cs3 ws3 (rlA 5 out W).1 W3 := by
            refine ⟨sP_kp j1 (Or.inl j2.1), ⟨j2.1, j2.2.1, fun x hx => j2.2.2.1 x ?_, ?_⟩, ⟨j3.1, kr3, ?_, ?_, ?_⟩, ?_, c5.same (fun x hx => ⟨(c5.at x hx).1, rfl, rfl, offP x (n4 x (List.mem_cons_of_mem _ hx))⟩), j6, j7⟩
            · rw [List.mem_append] at hx ⊢
              rcases hx with hx | hx
              · exact Or.inl hx
              · exact Or.inr (List.mem_cons_of_mem _ hx)
            · have nd := j2.2.2.2
              rw [List.nodup_append] at nd ⊢
              exact ⟨nd.1, (List.nodup_cons.mp nd.2.1).2, fun x hx y hy => nd.2.2 x hx y (List.mem_cons_of_mem _ hy)⟩
            · rw [hP_sP, hPq_ne (by omega)]; exact j3.2.2.1
            · rw [hP_sP, hPq_ne (by omega)]; exact j3.2.2.2.1
            · rw [hP_sP, hPq_at]
            · obtain ⟨f1, f2, f3, f4, f5, f6⟩ := j4
              exact ⟨f1, f2, by rw [offP a n1]; exact f3, by rw [offP a n1]; exact f4, f5.same (fun x hx => ⟨(f5.at x hx).1, rfl, rfl, offP x (n3 x hx)⟩), f6⟩
          have I5 : RI (sP g3 r 8 ws3.head?) r n nf (p + 1) false (oc - 1) rf := I3.same rfl
          exact ⟨kr3, c2, kr3, rfl, Or.inr rfl, q1 _ _ _ _ _ _ _ ⟨_, _, ⟨cs3, ws3, J5.mono (by omega), I5⟩, Rl3.ff⟩ (by omega) (by omega) hrf (by omega) hr⟩
    · rw [if_neg (fun z => h4 z.2)] at hr
      rw [if_neg (by rw [i_lt, nI_toInt (by omega), i_0]; omega)]
      exact ⟨rfl, Or.inl rfl, bad (Option.some.inj hr).symm⟩
  · rw [if_neg (fun z => h3 z.1)] at hr
    rw [if_neg h3]
    exact ⟨rfl, Or.inl rfl, bad (Option.some.inj hr).symm⟩
theorem C_all2 (hd : 5 < d) (hn : n ≤ 60) (hnf : nf ≤ 8) (hz : hsz h0 + 70 ≤ lim.1) (hu : hsu h0 + 400 ≤ lim.2) (ht : ∀ k, k < n → ix (t8 k) 256) {res : Option (List SP) × Nat} (q1 : ∀ g' L p' q cs ws W, res = (some L, p') → q ≤ 60 → PJ h0 g' A tx t8 n r a q cs ws L W → R (some (vi 1)) g') (q2 : ∀ g' p', res = (none, p') → BadP h0 g' A tx t8 n r a p' → R (some (vi 0)) g') : ∀ (f p i : Nat) (due : Bool) (oc rf : Nat) (out W : List SP) (g : AHp) (l2 : Option AV), rnA t8 n nf f p due oc rf out W = some res → PR h0 g A tx t8 n nf r a p due oc rf out W → i ≤ p → p ≤ n → rf ≤ 2 → oc ≤ p → WP lim d j_Te_readAll 2 [some (vr (some r)), some (vi (nI i)), l2] [] g R X := by
  intro f
  induction f with
  | zero => intro p i due oc rf out W g l2 h; cases h
  | succ f ih =>
    intro p i due oc rf out0 W0 g l2 hr P hi hp hrf hoc
    obtain ⟨out, W, ⟨cs, ws, J, I⟩, hl⟩ := P
    have kr := J.kr
    have fin : ¬ p < n → hk g r = 4 ∧ if hI g r 5 = (0 : Int32) then (hk g r = 4 ∧ if (0 : Int32) < hI g r 6 then (([] : List AV) = [] ∧ b01 (0 : Int32) ∧ R (some (vi (0 : Int32))) g) else ((∀ q ∈ [((0 : Int), (4 : Nat))], hk g r = q.2) ∧ 0 < d ∧ WM lim (d - 1) j_Te_release [vr (some r), vi (5 : Int32)] g (fun _ h7 => ([] : List AV) = [] ∧ b01 (1 : Int32) ∧ R (some (vi (1 : Int32))) h7) (X))) else (([] : List AV) = [] ∧ b01 (0 : Int32) ∧ R (some (vi (0 : Int32))) g) := by
      intro c
      rw [rnA, if_neg c] at hr
      have bad : res = (none, p) → R (some (vi 0)) g := fun e => q2 g p e ⟨⟨p, cs, ws, out, W, J, by omega⟩, I.2.2.1⟩
      refine ⟨kr, ?_⟩
      rw [I.2.2.2.1, I.2.2.2.2.1]
      cases due with
      | true =>
        rw [if_pos (Or.inl rfl)] at hr
        rw [if_neg (by decide)]
        exact ⟨rfl, Or.inl rfl, bad (Option.some.inj hr).symm⟩
      | false =>
        rw [if_pos (show bi false = 0 from rfl)]
        refine ⟨kr, ?_⟩
        by_cases h4 : 0 < oc
        · rw [if_pos (Or.inr h4)] at hr
          rw [if_pos (by rw [i_lt, nI_toInt (by omega), i_0]; omega)]
          exact ⟨rfl, Or.inl rfl, bad (Option.some.inj hr).symm⟩
        · rw [if_neg (by simp only [Bool.false_eq_true, false_or]; exact h4), hl.eq (k := 5) (by decide)] at hr
          rw [if_neg (by rw [i_lt, nI_toInt (by omega), i_0]; omega)]
          exact ⟨all1.mpr kr, by omega, C_rel (by omega) J (fun g2 cs2 ws2 J2 e2 => ⟨rfl, Or.inr rfl, q1 g2 _ _ p cs2 ws2 _ (Option.some.inj hr).symm (by omega) J2⟩)⟩
    refine B_Te_readAll_2 ⟨kr, ?_⟩
    rw [I.1]
    by_cases ci : i < n
    · rw [if_pos (nI_lt (by omega) (by omega))]
      refine ⟨kr, kr, ?_⟩
      rw [I.2.2.1]
      by_cases cp : p < n
      · rw [if_pos (nI_lt (by omega) (by omega))]
        refine ⟨kr, ?_⟩
        rw [nI_1, I.2.2.2.1]
        cases due with
        | true =>
          rw [if_neg (by decide)]
          obtain ⟨rfl, rfl⟩ := hl.1 rfl
          refine ⟨all1.mpr kr, by omega, C_factor (by omega) hn hnf hz hu ht ⟨cs, ws, J, I⟩ cp hrf hoc hr (fun g' p' due' oc' rf' out' W' P' h1 h2 h3 h4 hr' => onI_1 (ih p' (i + 1) due' oc' rf' out' W' g' _ hr' P' (by omega) h2 h3 h4)) (fun g' p' e B => onI_0 ⟨rfl, Or.inl rfl, q2 g' p' e B⟩)⟩
        | false =>
          rw [if_pos (show bi false = 0 from rfl)]
          refine ⟨all1.mpr kr, by omega, C_operator (by omega) hn hnf hz hu ⟨cs, ws, J, I⟩ cp hrf hoc hl hr (fun g' p' due' oc' rf' out' W' P' h1 h2 h3 h4 hr' => onI_1 (ih p' (i + 1) due' oc' rf' out' W' g' _ hr' P' (by omega) h2 h3 h4)) (fun g' p' e B => onI_0 ⟨rfl, Or.inl rfl, q2 g' p' e B⟩)⟩
      · rw [if_neg (nI_nlt (by omega) (by omega))]
        exact fin cp
    · rw [if_neg (nI_nlt (by omega) (by omega))]
      exact fin (by omega)
end RDQ
