/-! ===== the class's reader: factors, operators, all ===== -/
section RDO
variable {h0 g : AHp} {A : Nat → Prop} {tx : Nat} {t8 : Nat → Int32} {n r a q : Nat} {cs ws : List Nat} {out W : List SP} {nf p oc rf : Nat} {due : Bool} {lim : Nat × Nat} {d : Nat} {R : RT} {X : XT} {k x y u : Int32}
def PI (h0 g : AHp) (A : Nat → Prop) (tx : Nat) (t8 : Nat → Int32) (n nf r a p : Nat) (due : Bool) (oc rf : Nat) (out W : List SP) : Prop := ∃ cs ws, PJ h0 g A tx t8 n r a p cs ws out W ∧ RI g r n nf p due oc rf
/-- the class lets a waiting negation wait for the next operator; the reader of the theory does it at once -/
def Rl3 (due : Bool) (o w out W : List SP) : Prop := (due = true → o = out ∧ w = W) ∧ (due = false → rlA 3 o w = (out, W))
def PR (h0 g : AHp) (A : Nat → Prop) (tx : Nat) (t8 : Nat → Int32) (n nf r a p : Nat) (due : Bool) (oc rf : Nat) (out W : List SP) : Prop := ∃ o w, PI h0 g A tx t8 n nf r a p due oc rf o w ∧ Rl3 due o w out W
theorem Rl3.tt {o w : List SP} : Rl3 true o w o w := ⟨fun _ => ⟨rfl, rfl⟩, fun h => absurd h (by decide)⟩
theorem Rl3.ff {o w : List SP} : Rl3 false o w (rlA 3 o w).1 (rlA 3 o w).2 := ⟨fun h => absurd h (by decide), fun _ => rfl⟩
theorem Rl3.eq {o w out W : List SP} {k : Int32} (h : Rl3 false o w out W) (hk : (3 : Int32) ≤ k) : rlA k out W = rlA k o w := by
  have e := h.2 rfl
  have := rl_rl hk (ws := w) (out := o)
  rw [e] at this
  exact this
def BadP (h0 g : AHp) (A : Nat → Prop) (tx : Nat) (t8 : Nat → Int32) (n r a p : Nat) : Prop := (∃ q cs ws out W, PJ h0 g A tx t8 n r a q cs ws out W ∧ q ≤ 60) ∧ hI g r 4 = nI p
theorem C_isD (q1 : isDA x → R (some (vi 1)) g) (q2 : ¬ isDA x → R (some (vi 0)) g) : WM lim d j_Te_isDigit [vi x] g R X := by
  have a0 : (48 : Int32).toInt = 48 := rfl
  have a1 : (57 : Int32).toInt = 57 := rfl
  refine B_Te_isDigit_0 ?_
  split
  · rename_i c; rw [i_lt, a0] at c; exact ⟨rfl, Or.inl rfl, q2 (fun z => by have := z.1; omega)⟩
  · rename_i c; rw [i_lt, a0] at c
    split
    · rename_i c2; rw [i_lt, a1] at c2; exact ⟨rfl, Or.inl rfl, q2 (fun z => by have := z.2; omega)⟩
    · rename_i c2; rw [i_lt, a1] at c2; exact ⟨rfl, Or.inr rfl, q1 ⟨by omega, by omega⟩⟩
theorem C_prop (qq : R (some (vi (prA x))) g) : WM lim d j_Te_propertyOf [vi x] g R X := by
  refine B_Te_propertyOf_0 ?_
  unfold prA at qq
  split
  · rename_i c; rw [if_pos c] at qq; exact ⟨rfl, qq⟩
  · rename_i c; rw [if_neg c] at qq
    split
    · rename_i c; rw [if_pos c] at qq; exact ⟨rfl, qq⟩
    · rename_i c; rw [if_neg c] at qq
      split
      · rename_i c; rw [if_pos c] at qq; exact ⟨rfl, qq⟩
      · rename_i c; rw [if_neg c] at qq
        split
        · rename_i c; rw [if_pos c] at qq; exact ⟨rfl, qq⟩
        · rename_i c; rw [if_neg c] at qq; exact ⟨rfl, qq⟩
theorem adv_e (I : RI g r n nf p due oc rf) : hI g r 4 + 1 = nI (p + 1) := by rw [I.2.2.1, nI_1]
theorem dg_pn {p : Nat} (h : isDA (sgA t8 n p)) : p < n := by
  by_cases c : p < n
  · exact c
  · have := h.1; unfold sgA at this; rw [if_neg c] at this; exact absurd this (by decide)
theorem C_dig4 (hd : 1 < d) (hn : n ≤ 60) : ∀ (m p : Nat) (acc : Int32) (g : AHp), m ≤ 4 → PJ h0 g A tx t8 n r a q cs ws out W → RI g r n nf p due oc rf → p ≤ n → (∀ g', PJ h0 g' A tx t8 n r a q cs ws out W → RI g' r n nf (dgA t8 n m p acc).2 due oc rf → R (some (vi (dgA t8 n m p acc).1)) g') → WP lim d j_Te_readDigits 4 [some (vr (some r)), some (vi acc), some (vi (nI (4 - m)))] [] g R X := by
  have e4 : ∀ m, m ≤ 4 → (nI m < 4 ↔ m < 4) := by
    intro m hm
    have : (4 : Int32).toInt = 4 := rfl
    rw [i_lt, nI_toInt (by omega), this]; omega
  intro m
  induction m with
  | zero =>
    intro p acc g hm J I hp qq
    refine B_Te_readDigits_4 ?_
    rw [if_neg (by rw [e4 _ (by omega)]; omega)]
    exact ⟨rfl, qq g J I⟩
  | succ m ih =>
    intro p acc g hm J I hp qq
    have kr := J.kr
    rw [dgA] at qq
    refine B_Te_readDigits_4 ?_
    rw [if_pos ((e4 _ (by omega)).mpr (by omega)), nI_1]
    refine ⟨all1.mpr kr, by omega, C_peek J I hp hn (onI_v ⟨by omega, C_isD (fun h => onI_1 ⟨all1.mpr kr, by omega, C_peek J I hp hn (onI_v ⟨kr, kr, ?_⟩)⟩) (fun h => onI_0 ⟨rfl, ?_⟩)⟩)⟩
    · rw [if_pos h] at qq
      have hp1 := dg_pn h
      rw [adv_e I, show 4 - (m + 1) + 1 = 4 - m by omega]
      exact ih (p + 1) _ _ (by omega) J.sI I.pos (by omega) qq
    · rw [if_neg h] at qq
      exact qq g J I
theorem C_dig (hd : 1 < d) (hn : n ≤ 60) (J : PJ h0 g A tx t8 n r a q cs ws out W) (I : RI g r n nf p due oc rf) (hp : p ≤ n) (qq : ∀ g', PJ h0 g' A tx t8 n r a q cs ws out W → RI g' r n nf (dgA t8 n 4 p 0).2 due oc rf → R (some (vi (dgA t8 n 4 p 0).1)) g') : WM lim d j_Te_readDigits [vr (some r)] g R X :=
  B_Te_readDigits_0 (C_dig4 hd hn 4 p 0 g (by omega) J I hp qq)
theorem C_c89 (hd : 2 < d) (hn : n ≤ 60) (hz : hsz h0 + 70 ≤ lim.1) (hu : hsu h0 + 400 ≤ lim.2) {l4 l5 l6 l7 : Option AV} (J : PJ h0 g A tx t8 n r a q cs ws out W) (I : RI g r n nf p due oc rf) (hp : p ≤ n) (hq : q < p) (hx : ¬ x = 33 ∧ ¬ x = 38 ∧ ¬ x = 124 ∧ ¬ x = 35) (hy : y = 60 ∨ y = 61 ∨ y = 62) (q1 : isDA (sgA t8 n p) → ∀ g', PI h0 g' A tx t8 n nf r a (dgA t8 n 4 p 0).2 false oc rf (out ++ [stp x y (if u = 0 then (dgA t8 n 4 p 0).1 else -(dgA t8 n 4 p 0).1)]) W → R (some (vi 1)) g') (q2 : ¬ isDA (sgA t8 n p) → R (some (vi 0)) g) : WP lim d j_Te_readComparison 89 [some (vr (some r)), some (vi x), some (vi y), some (vi u), l4, l5, l6, l7] [] g R X := by
  have kr := J.kr
  refine B_Te_readComparison_89 ⟨all1.mpr kr, by omega, C_peek J I hp hn (onI_v ⟨by omega, C_isD (fun hdg => onI_1 ⟨all1.mpr kr, by omega, C_dig (by omega) hn J I hp (fun g1 J1 I1 => onI_v ?_)⟩) (fun h => onI_0 ⟨rfl, Or.inl rfl, q2 h⟩)⟩)⟩
  have kr1 := J1.kr
  have q1 := q1 hdg
  have hlt : p < (dgA t8 n 4 p 0).2 := dgA_lt (r := 3) hdg
  have hle : (dgA t8 n 4 p 0).2 ≤ n := dgA_n (M0 := fun _ => t8) 4 p 0 hp
  generalize (dgA t8 n 4 p 0).1 = v at q1
  generalize (dgA t8 n 4 p 0).2 = p' at q1 I1 hlt hle
  have es : ∀ v, stp x y v = (0, x, if y = 60 then -2147483648 else if y = 61 then v else v + 1, if y = 60 then v - 1 else if y = 61 then v else 2147483647) := fun v => by unfold stp; rw [if_neg hx.1, if_neg hx.2.1, if_neg hx.2.2.1, if_neg hx.2.2.2]
  have fin : ∀ (fr to : Int32), (0, x, fr, to) = stp x y (if u = 0 then v else -v) → (hk g1 r = 4 ∧ 0 < d ∧ WM lim (d - 1) j_It_rangeStep [vi x, vi fr, vi to] g1 (fun v11 h10 => onO v11 fun o12 => onR (hP g1 r 3) fun a13 => (∀ q ∈ [((0 : Int), (1 : Nat))], hk h10 a13 = q.2) ∧ 0 < d ∧ WM lim (d - 1) j_Fi_append [vr (some a13), vr o12] h10 (fun _ h14 => hk h14 r = 4 ∧ b01 (0 : Int32) ∧ ([] : List AV) = [] ∧ b01 (1 : Int32) ∧ R (some (vi (1 : Int32))) (sI h14 r 5 (0 : Int32))) (X)) (fun _ _ => False)) := by
    intro fr to e
    have jz := J1.2.2.2.2.2.2
    refine ⟨kr1, by omega, C_rangeStep (by omega) (by omega) (by omega) (fun g2 nw => onO_v ?_)⟩
    rw [J1.2.2.1.2.2.2.1, onR_s]
    refine ⟨all1.mpr (nw.snd J1.2.2.2.1).1, by omega, C_app J1 nw (fun g3 cs3 J3 e3 => ⟨J3.kr, Or.inl rfl, rfl, Or.inr rfl, q1 _ ⟨cs3, ws, ?_, (I1.same e3).setD (b := false)⟩⟩)⟩
    rw [e] at J3
    exact J3.sI.mono (by omega)
  by_cases hu0 : u = 0
  · rw [if_pos hu0]
    rw [if_pos hu0, es] at fin
    rcases hy with c | c | c
    · subst c
      rw [if_pos rfl, if_pos rfl]
      rw [if_pos rfl, if_pos rfl] at fin
      exact fin _ _ rfl
    · subst c
      rw [if_neg (by decide), if_pos rfl, if_neg (by decide), if_pos rfl]
      rw [if_neg (by decide), if_pos rfl, if_neg (by decide), if_pos rfl] at fin
      exact fin _ _ rfl
    · subst c
      rw [if_neg (by decide), if_neg (by decide), if_neg (by decide), if_neg (by decide)]
      rw [if_neg (by decide), if_neg (by decide), if_neg (by decide), if_neg (by decide)] at fin
      exact fin _ _ rfl
  · rw [if_neg hu0]
    rw [if_neg hu0, es] at fin
    rcases hy with c | c | c
    · subst c
      rw [if_pos rfl, if_pos rfl]
      rw [if_pos rfl, if_pos rfl] at fin
      exact fin _ _ rfl
    · subst c
      rw [if_neg (by decide), if_pos rfl, if_neg (by decide), if_pos rfl]
      rw [if_neg (by decide), if_pos rfl, if_neg (by decide), if_pos rfl] at fin
      exact fin _ _ rfl
    · subst c
      rw [if_neg (by decide), if_neg (by decide), if_neg (by decide), if_neg (by decide)]
      rw [if_neg (by decide), if_neg (by decide), if_neg (by decide), if_neg (by decide)] at fin
      exact fin _ _ rfl
end RDO
