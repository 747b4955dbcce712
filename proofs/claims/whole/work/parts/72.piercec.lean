/-! ===== the class's piercing points; its ranking ===== -/
theorem cls_start {M : MT} {T : Tr} {N : Nat} {W : Int} (I : TI M T N W) {i : Int32} (hi : 0 ≤ i.toInt) : cls M i (live M T) 0 0 = prc M (live M T) (i.toInt + 1).toNat (-1001) := by
  obtain ⟨k, hk⟩ : ∃ k, (i.toInt + 1).toNat = k + 1 := ⟨i.toInt.toNat, by omega⟩
  cases hL : live M T with
  | nil =>
    rw [hk]
    show (if 0 = 0 then none else _) = (if pf M (-1001) [] 1001 = 1001 then none else _)
    rw [if_pos rfl]
    exact (if_pos (show pf M (-1001) [] 1001 = 1001 from rfl)).symm
  | cons n S =>
    have hn : n ∈ live M T := by rw [hL]; simp
    have hr := I.2.2.2.2.2.2.1 n ((I.mem_live n).mp hn).1
    have hn4 := ((I.mem_live n).mp hn).2
    show (if 0 < 0 ∧ _ then _ else if 0 < 0 ∧ _ then _ else cls M i S 1 (M 2 n)) = _
    rw [if_neg (by omega), if_neg (by omega)]
    have h := cls_prc I hi S [n] 1 (M 2 n) (-1001) (by rw [hL]; rfl) (by omega) (by simp) (by omega) (by
      show (if M 4 n = 0 ∧ (-1001 : Int32) < M 1 n then (if (1001 : Int32) < M 2 n then 1001 else M 2 n) else 1001) = M 2 n
      rw [if_pos ⟨hn4, by rw [i_lt, show (-1001 : Int32).toInt = -1001 from rfl]; omega⟩, if_neg (by rw [i_lt, show (1001 : Int32).toInt = 1001 from rfl]; omega)]) (by omega) (fun a ha => by rw [List.mem_singleton.mp ha]; omega) (fun a ha => by
      have := I.2.2.2.2.2.2.1 a ((I.mem_live a).mp (by rw [hL]; simp [ha])).1
      rw [show (-1001 : Int32).toInt = -1001 from rfl]; omega)
    rw [h, hL]; congr 1; omega
theorem cls_neg {M : MT} {i : Int32} (hi : i.toInt < 0) : ∀ (S : List Nat) (bg : Nat) (p : Int32), bg + S.length ≤ 200 → cls M i S bg p = none := by
  have hb : ∀ bg : Nat, bg ≤ 200 → 0 < bg → ¬ nI bg - 1 = i := fun bg h1 h2 e => by
    rw [i_eq, i_sub (by rw [nI_toInt (by omega)]; show _ ≤ _ - (1 : Int); omega) (by rw [nI_toInt (by omega)]; show _ - (1 : Int) < _; omega), nI_toInt (by omega)] at e
    have : (bg : Int) - 1 = i.toInt := e
    omega
  intro S
  induction S with
  | nil =>
    intro bg p h
    show (if bg = 0 then none else if nI bg - 1 = i then some p else none) = none
    by_cases c : bg = 0
    · rw [if_pos c]
    · rw [if_neg c, if_neg (hb bg (by simp at h; omega) (by omega))]
  | cons n S ih =>
    intro bg p h
    rw [List.length_cons] at h
    show (if 0 < bg ∧ ¬ p < M 1 n then cls M i S bg (if p < M 2 n then p else M 2 n) else if 0 < bg ∧ nI bg - 1 = i then some p else cls M i S (bg + 1) (M 2 n)) = none
    by_cases c : 0 < bg ∧ ¬ p < M 1 n
    · rw [if_pos c]; exact ih _ _ (by omega)
    · rw [if_neg c, if_neg (fun q => hb bg (by omega) q.1 q.2)]; exact ih _ _ (by omega)
section PRCC
variable {g : AHp} {c t b : Nat} {na : Nat → Nat} {K : MT} {T : Tr} {N : Nat} {W : Int} {lim : Nat × Nat} {d : Nat} {R : RT} {X : XT} {x y : Int32}
theorem C_pp13 (O : RO g c t b na K T N W) (hd : 1 < d) : ∀ (S P : List Nat) (bg : Nat) (p : Int32), live K T = P ++ S → bg ≤ P.length → (cls K x S bg p = none → thr lim X 4 g) → (∀ v, cls K x S bg p = some v → R (some (vi v)) g) → WP lim d j_It_piercingPoint 13 [some (vr (some c)), some (vi x), some (vi (nI bg)), some (vi p), some (vr (oa na (hdI S)))] [] g R X := by
  have hlen : (live K T).length ≤ 100 := by have := O.2.2.1.len; have := O.2.2.1.2.2.2.2.2.2.2.2.2.1; omega
  intro S
  induction S with
  | nil =>
    intro P bg p h hb qn qs
    have hb1 : bg ≤ 100 := by rw [List.append_nil] at h; rw [h] at hlen; omega
    refine B_It_piercingPoint_13 ?_
    rw [show hdI [] = (-1 : Int32) from rfl, oa_n, ifN_n]
    have e : cls K x [] bg p = if bg = 0 then none else if nI bg - 1 = x then some p else none := rfl
    rw [e] at qn qs
    by_cases c0 : bg = 0
    · rw [if_pos c0] at qn; rw [c0, if_pos nI_0]; exact ⟨rfl, qn rfl⟩
    · rw [if_neg c0] at qn qs
      rw [if_neg (fun e => c0 (by rw [← nI_0, i_eq, nI_toInt (by omega), nI_toInt (by omega)] at e; omega))]
      by_cases c1 : nI bg - 1 = x
      · rw [if_pos c1] at qs; rw [if_pos c1]; exact ⟨rfl, qs p rfl⟩
      · rw [if_neg c1] at qn; rw [if_neg c1]; exact ⟨rfl, qn rfl⟩
  | cons n S ih =>
    intro P bg p h hb qn qs
    have hn := O.at h
    have hb1 : bg ≤ 100 := by rw [h, List.length_append] at hlen; omega
    have hPl : (P ++ [n]).length = P.length + 1 := by simp
    have e : cls K x (n :: S) bg p = if 0 < bg ∧ ¬ p < K 1 n then cls K x S bg (if p < K 2 n then p else K 2 n) else if 0 < bg ∧ nI bg - 1 = x then some p else cls K x S (bg + 1) (K 2 n) := rfl
    rw [e] at qn qs
    have hpos : (0 : Int32) < nI bg ↔ 0 < bg := by rw [i_lt, nI_toInt (by omega), show (0 : Int32).toInt = 0 from rfl]; omega
    refine B_It_piercingPoint_13 ?_
    rw [show hdI (n :: S) = nI n from rfl, oa_s (O.2.1.lt hn), ifN_s]
    simp only [onR_s, O.2.1.lo hn, O.2.1.hi hn, nI_1, true_and]
    have begin_ : ¬ (0 < bg ∧ ¬ p < K 1 n) → ¬ (0 < bg ∧ nI bg - 1 = x) → (hk g (na n) = 2 ∧ (∀ q ∈ [((0 : Int), (2 : Nat))], hk g (na n) = q.2) ∧ 0 < d ∧ WM lim (d - 1) j_No_liveAfter [vr (some (na n))] g (fun v5 h4 => onO v5 fun o6 => WP lim d j_It_piercingPoint 13 [some (vr (some c)), some (vi x), some (vi (nI (bg + 1))), some (vi (K 2 n)), some (vr o6)] [] h4 R X) X) := by
      intro c1 c2
      rw [if_neg c1, if_neg c2] at qn qs
      exact ⟨O.2.1.kn hn, O.next h (by omega) (onO_v (ih (P ++ [n]) (bg + 1) _ (by rw [h]; simp) (by omega) qn qs))⟩
    by_cases c0 : 0 < bg
    · rw [if_pos (hpos.mpr c0)]
      refine ⟨O.2.1.kn hn, ?_⟩
      by_cases c1 : p < K 1 n
      · rw [if_pos c1, if_pos (hpos.mpr c0)]
        by_cases c2 : nI bg - 1 = x
        · rw [if_pos c2]
          rw [if_neg (fun z => z.2 c1), if_pos ⟨c0, c2⟩] at qs
          exact qs p rfl
        · rw [if_neg c2]
          exact begin_ (fun z => z.2 c1) (fun z => c2 z.2)
      · rw [if_neg c1]
        rw [if_pos ⟨c0, c1⟩] at qn qs
        exact ⟨O.2.1.kn hn, O.next h (by omega) (onO_v (ih (P ++ [n]) bg _ (by rw [h]; simp) (by omega) qn qs))⟩
    · rw [if_neg (fun z => c0 (hpos.mp z)), if_neg (fun z => c0 (hpos.mp z))]
      exact begin_ (fun z => c0 z.1) (fun z => c0 z.1)
theorem C_piercingPoint (O : RO g c t b na K T N W) (hd : 1 < d) (q1 : x.toInt < 0 → thr lim X 4 g) (q2 : 0 ≤ x.toInt → prc K (live K T) (x.toInt + 1).toNat (-1001) = none → thr lim X 4 g) (q3 : 0 ≤ x.toInt → ∀ v, prc K (live K T) (x.toInt + 1).toNat (-1001) = some v → R (some (vi v)) g) : WM lim d j_It_piercingPoint [vr (some c), vi x] g R X := by
  have hlen : (live K T).length ≤ 100 := by have := O.2.2.1.len; have := O.2.2.1.2.2.2.2.2.2.2.2.2.1; omega
  refine B_It_piercingPoint_0 (O.first hd (onO_v ?_))
  have := C_pp13 (lim := lim) (X := X) (R := R) (x := x) O hd (live K T) [] 0 0 rfl (by simp) (fun h => ?_) (fun v h => ?_)
  · rw [nI_0] at this; exact this
  · by_cases hx : x.toInt < 0
    · exact q1 hx
    · exact q2 (by omega) (by rw [← cls_start O.2.2.1 (by omega)]; exact h)
  · by_cases hx : x.toInt < 0
    · rw [cls_neg hx _ _ _ (by omega)] at h; cases h
    · exact q3 (by omega) v (by rw [← cls_start O.2.2.1 (by omega)]; exact h)
end PRCC
