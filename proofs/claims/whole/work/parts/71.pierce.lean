/-! ===== piercing points ===== -/
def pf (M : MT) (p : Int32) : List Nat → Int32 → Int32
  | [], m => m
  | a :: l, m => pf M p l (if M 4 a = 0 ∧ p < M 1 a then (if m < M 2 a then m else M 2 a) else m)
theorem pf_app {M : MT} {p : Int32} : ∀ (l l' : List Nat) (m : Int32), pf M p (l ++ l') m = pf M p l' (pf M p l m) := by
  intro l
  induction l with
  | nil => intro l' m; rfl
  | cons a l ih => intro l' m; exact ih l' _
theorem mn_swap (m a b : Int32) : (if (if m < a then m else a) < b then (if m < a then m else a) else b) = (if (if m < b then m else b) < a then (if m < b then m else b) else a) := by
  have h : ∀ p q : Int32, (if p < q then p else q).toInt = min p.toInt q.toInt := fun p q => i_min
  rw [i_eq, h, h, h, h]; omega
theorem pf_perm {M : MT} {p : Int32} {l l' : List Nat} (h : l.Perm l') : ∀ m, pf M p l m = pf M p l' m := by
  induction h with
  | nil => intro m; rfl
  | cons x _ ih => intro m; exact ih _
  | swap x y l =>
    intro m
    show pf M p l _ = pf M p l _
    congr 1
    by_cases c1 : M 4 x = 0 ∧ p < M 1 x
    · by_cases c2 : M 4 y = 0 ∧ p < M 1 y
      · rw [if_pos c1, if_pos c2, if_pos c2, if_pos c1]; exact mn_swap m (M 2 y) (M 2 x)
      · rw [if_pos c1, if_neg c2, if_neg c2, if_pos c1]
    · by_cases c2 : M 4 y = 0 ∧ p < M 1 y
      · rw [if_neg c1, if_pos c2, if_pos c2, if_neg c1]
      · rw [if_neg c1, if_neg c2, if_neg c2, if_neg c1]
  | trans _ _ h1 h2 => intro m; exact (h1 m).trans (h2 m)
theorem pf_filter {M : MT} {p : Int32} : ∀ (l : List Nat) (m : Int32), pf M p (l.filter fun x => decide (M 4 x = 0)) m = pf M p l m := by
  intro l
  induction l with
  | nil => intro m; rfl
  | cons a l ih =>
    intro m
    rw [List.filter_cons]
    by_cases c : M 4 a = 0
    · rw [if_pos (decide_eq_true c)]; exact ih _
    · rw [if_neg (by rw [decide_eq_false c]; decide)]
      show _ = pf M p l (if M 4 a = 0 ∧ p < M 1 a then _ else m)
      rw [if_neg (fun q => c q.1)]; exact ih m
theorem pf_live {M : MT} {T : Tr} {N : Nat} {W : Int} {p m : Int32} (I : TI M T N W) : pf M p (List.range' 0 N) m = pf M p (live M T) m := by
  rw [← pf_filter]
  refine pf_perm ((List.perm_ext_iff_of_nodup (List.Pairwise.filter _ List.nodup_range') (pw_nodup I.live_sorted)).mpr (fun x => ?_)) m
  rw [List.mem_filter, I.mem_live, List.mem_range'_1, decide_eq_true_iff]
  exact ⟨fun h => ⟨by omega, h.2⟩, fun h => ⟨by omega, h.2⟩⟩
def prc (M : MT) (l : List Nat) : Nat → Int32 → Option Int32
  | 0, p => some p
  | n + 1, p => if pf M p l 1001 = 1001 then none else prc M l n (pf M p l 1001)
theorem pf_mem {M : MT} {p : Int32} : ∀ (l : List Nat) (m : Int32), pf M p l m = m ∨ ∃ a ∈ l, M 4 a = 0 ∧ p < M 1 a ∧ pf M p l m = M 2 a := by
  intro l
  induction l with
  | nil => intro m; exact Or.inl rfl
  | cons a l ih =>
    intro m
    have e : pf M p (a :: l) m = pf M p l (if M 4 a = 0 ∧ p < M 1 a then (if m < M 2 a then m else M 2 a) else m) := rfl
    rw [e]
    rcases ih (if M 4 a = 0 ∧ p < M 1 a then (if m < M 2 a then m else M 2 a) else m) with q | ⟨b, hb, q⟩
    · rw [q]
      by_cases c : M 4 a = 0 ∧ p < M 1 a
      · rw [if_pos c]
        by_cases c2 : m < M 2 a
        · rw [if_pos c2]; exact Or.inl rfl
        · rw [if_neg c2]; exact Or.inr ⟨a, List.mem_cons_self, c.1, c.2, rfl⟩
      · rw [if_neg c]; exact Or.inl rfl
    · exact Or.inr ⟨b, List.mem_cons_of_mem _ hb, q⟩
section PRCR
variable {z : Nat × Nat} {d : Nat} {M : MT} {Q : Option AV → MT → Prop} {N : Nat} {x : Int32} {T : Tr} {W : Int}
theorem L_p34 (hN : M 0 10 = nI N) (hN5 : N ≤ 500) {p x3 : Int32} (q : ∀ x5 : Int32, if pf M p (List.range' 0 N) 1001 = 1001 then (0 < d ∧ WQ z (d - 1) j_Mo_fails [vr (some 0), vi (1 : Int32)] M (fun v2 M1 => onI v2 fun x4 => Q (some (vi x4)) M1)) else (WK z d j_Mo_piercingPoint 21 [some (vr (some 0)), some (vi x), some (vi (pf M p (List.range' 0 N) 1001)), some (vi (x3 + (1 : Int32))), some (vi (pf M p (List.range' 0 N) 1001)), some (vi x5)] [] M Q)) : ∀ (n k : Nat) (m : Int32), k + n = N → pf M p (List.range' k n) m = pf M p (List.range' 0 N) 1001 → WK z d j_Mo_piercingPoint 34 [some (vr (some 0)), some (vi x), some (vi p), some (vi x3), some (vi m), some (vi (nI k))] [] M Q := by
  intro n
  induction n with
  | zero =>
    intro k m hk e
    have e : m = pf M p (List.range' 0 N) 1001 := e
    refine M_piercingPoint_34 ?_
    rw [hN, if_neg (nI_nlt (by omega) (by omega)), e]
    exact q _
  | succ n ih =>
    intro k m hk e
    have hk5 : k < 500 := by omega
    rw [List.range'_succ] at e
    have e : pf M p (List.range' (k + 1) n) (if M 4 k = 0 ∧ p < M 1 k then (if m < M 2 k then m else M 2 k) else m) = pf M p (List.range' 0 N) 1001 := e
    refine M_piercingPoint_34 ?_
    rw [hN, if_pos (nI_lt (by omega) (by omega)), nI_clamp (by omega), nI_1]
    refine ⟨ix_nI hk5 (by decide), ?_⟩
    by_cases c1 : M 4 k = 0
    · rw [if_pos c1]
      refine ⟨ix_nI hk5 (by decide), ?_⟩
      by_cases c2 : p < M 1 k
      · rw [if_pos c2]; rw [if_pos ⟨c1, c2⟩] at e
        exact ⟨ix_nI hk5 (by decide), ih (k + 1) _ (by omega) e⟩
      · rw [if_neg c2]; rw [if_neg (fun z => c2 z.2)] at e
        exact ih (k + 1) _ (by omega) e
    · rw [if_neg c1]; rw [if_neg (fun z => c1 z.1)] at e
      exact ih (k + 1) _ (by omega) e
theorem L_p21 (I : TI (thn M 0) T N W) (hd : 0 < d) : ∀ (n k : Nat) (p : Int32) (l4 l5 : Option AV), x.toInt + 1 = k + n → (k : Int) - 1001 ≤ p.toInt → p.toInt ≤ 1000 → (prc (thn M 0) (live (thn M 0) T) n p = none → Q (some (vi 0)) (thn M 1)) → (∀ v, prc (thn M 0) (live (thn M 0) T) n p = some v → Q (some (vi v)) (thn M 0)) → WK z d j_Mo_piercingPoint 21 [some (vr (some 0)), some (vi x), some (vi p), some (vi (nI k)), l4, l5] [] (thn M 0) Q := by
  have hx : x.toInt < 2147483648 := by have := Int32.toInt_lt x; omega
  intro n
  induction n with
  | zero =>
    intro k p l4 l5 hk hp1 hp2 _ q
    refine M_piercingPoint_21 ?_
    rw [if_pos (by rw [i_lt, nI_toInt (by omega)]; omega)]; exact q p rfl
  | succ n ih =>
    intro k p l4 l5 hk hp1 hp2 qn qs
    refine M_piercingPoint_21 ?_
    rw [if_neg (by rw [i_lt, nI_toInt (by omega)]; omega), ← nI_0]
    have qn : (if pf (thn M 0) p (live (thn M 0) T) 1001 = 1001 then none else prc (thn M 0) (live (thn M 0) T) n (pf (thn M 0) p (live (thn M 0) T) 1001)) = none → Q (some (vi 0)) (thn M 1) := qn
    have qs : ∀ v, (if pf (thn M 0) p (live (thn M 0) T) 1001 = 1001 then none else prc (thn M 0) (live (thn M 0) T) n (pf (thn M 0) p (live (thn M 0) T) 1001)) = some v → Q (some (vi v)) (thn M 0) := qs
    refine L_p34 I.1 I.2.1 (fun x5 => ?_) N 0 1001 (by omega) rfl
    rw [pf_live I, nI_1]
    split
    · rename_i c; rw [if_pos c] at qn; exact S_fails' hd (qn rfl)
    · rename_i c; rw [if_neg c] at qn qs
      rcases pf_mem (M := thn M 0) (p := p) (live (thn M 0) T) 1001 with e | ⟨a, ha, h4, h1, e⟩
      · exact (c e).elim
      · have hr := I.2.2.2.2.2.2.1 a ((I.mem_live a).mp ha).1
        rw [i_lt] at h1
        refine ih (k + 1) _ _ _ (by omega) ?_ ?_ qn qs
        · rw [e]; omega
        · rw [e]; omega
theorem S_piercingPoint (I : TI M T N W) (hd : 0 < d) (q1 : x.toInt < 0 → Q (some (vi 0)) (thn M 1)) (q2 : 0 ≤ x.toInt → prc M (live M T) (x.toInt + 1).toNat (-1001) = none → Q (some (vi 0)) (thn M 1)) (q3 : 0 ≤ x.toInt → ∀ v, prc M (live M T) (x.toInt + 1).toNat (-1001) = some v → Q (some (vi v)) (thn M 0)) : WQ z d j_Mo_piercingPoint [vr (some 0), vi x] M Q := by
  have I0 : TI (thn M 0) T N W := TI_thn I
  have hpf : ∀ (l : List Nat) (p m : Int32), pf (thn M 0) p l m = pf M p l m := by
    intro l p
    induction l with
    | nil => intro m; rfl
    | cons a l ih =>
      intro m
      show pf (thn M 0) p l (if thn M 0 4 a = 0 ∧ p < thn M 0 1 a then (if m < thn M 0 2 a then m else thn M 0 2 a) else m) = pf M p l (if M 4 a = 0 ∧ p < M 1 a then (if m < M 2 a then m else M 2 a) else m)
      rw [ih, thn_ne (by decide), thn_ne (by decide), thn_ne (by decide)]
  have hprc : ∀ (n : Nat) (p : Int32), prc (thn M 0) (live (thn M 0) T) n p = prc M (live M T) n p := by
    intro n
    induction n with
    | zero => intro p; rfl
    | succ n ih =>
      intro p
      show (if _ then _ else _) = (if _ then _ else _)
      rw [hpf, live_thn, ← live_thn (k := 0), ih, live_thn]
  refine M_piercingPoint_0 ?_
  split
  · rename_i c; rw [i_lt] at c; exact S_fails' hd (q1 c)
  · rename_i c; rw [i_lt, show (0 : Int32).toInt = 0 from rfl] at c
    rw [← nI_0]
    refine L_p21 I0 hd (x.toInt + 1).toNat 0 (-1001) none none (by omega) (by decide) (by decide) (fun h => q2 (by omega) (by rw [← hprc]; exact h)) (fun v h => q3 (by omega) v (by rw [← hprc]; exact h))
end PRCR

/-- the class's sweep -/
def cls (M : MT) (i : Int32) : List Nat → Nat → Int32 → Option Int32
  | [], bg, p => if bg = 0 then none else if nI bg - 1 = i then some p else none
  | n :: S, bg, p => if 0 < bg ∧ ¬ p < M 1 n then cls M i S bg (if p < M 2 n then p else M 2 n) else if 0 < bg ∧ nI bg - 1 = i then some p else cls M i S (bg + 1) (M 2 n)
theorem pf_out {M : MT} {p : Int32} : ∀ (l : List Nat) (m : Int32), (∀ a ∈ l, ¬ p < M 1 a) → pf M p l m = m := by
  intro l
  induction l with
  | nil => intro m _; rfl
  | cons a l ih =>
    intro m h
    show pf M p l (if M 4 a = 0 ∧ p < M 1 a then _ else m) = m
    rw [if_neg (fun q => h a List.mem_cons_self q.2)]; exact ih m (fun b hb => h b (List.mem_cons_of_mem _ hb))
theorem pf_keep {M : MT} {p : Int32} : ∀ (l : List Nat) (m : Int32), (∀ a ∈ l, m < M 2 a) → pf M p l m = m := by
  intro l
  induction l with
  | nil => intro m _; rfl
  | cons a l ih =>
    intro m h
    show pf M p l (if M 4 a = 0 ∧ p < M 1 a then (if m < M 2 a then m else M 2 a) else m) = m
    have : (if M 4 a = 0 ∧ p < M 1 a then (if m < M 2 a then m else M 2 a) else m) = m := by
      rw [if_pos (h a List.mem_cons_self)]; split <;> rfl
    rw [this]; exact ih m (fun b hb => h b (List.mem_cons_of_mem _ hb))
theorem cls_prc {M : MT} {T : Tr} {N : Nat} {W : Int} (I : TI M T N W) {i : Int32} (hi : 0 ≤ i.toInt) : ∀ (S P : List Nat) (bg : Nat) (p pt : Int32), live M T = P ++ S → 0 < bg → bg ≤ P.length → (bg : Int) - 1 ≤ i.toInt → pf M pt P 1001 = p → p.toInt ≤ 1000 → (∀ a ∈ P, (M 1 a).toInt ≤ p.toInt) → (∀ a ∈ S, pt.toInt < (M 1 a).toInt) → cls M i S bg p = prc M (live M T) (i.toInt + 2 - bg).toNat pt := by
  have hlen : (live M T).length ≤ 100 := by have := I.len; have := I.2.2.2.2.2.2.2.2.2.1; omega
  have hrg : ∀ a ∈ live M T, -1000 ≤ (M 1 a).toInt ∧ (M 1 a).toInt ≤ (M 2 a).toInt ∧ (M 2 a).toInt ≤ 1000 := fun a ha => I.2.2.2.2.2.2.1 a ((I.mem_live a).mp ha).1
  have hbi : ∀ bg : Nat, bg ≤ 200 → 0 < bg → (nI bg - 1 = i ↔ (bg : Int) - 1 = i.toInt) := fun bg h1 h2 => by
    rw [i_eq, i_sub (by rw [nI_toInt (by omega)]; show _ ≤ _ - (1 : Int); omega) (by rw [nI_toInt (by omega)]; show _ - (1 : Int) < _; omega), nI_toInt (by omega)]; rfl
  have e1001 : (1001 : Int32).toInt = 1001 := rfl
  intro S
  induction S with
  | nil =>
    intro P bg p pt h hb0 hbl hbi2 hp hp1 hlo _
    rw [List.append_nil] at h
    have hn : pf M pt (live M T) 1001 = p := by rw [h]; exact hp
    have hne : ¬ p = 1001 := fun e => by rw [e, e1001] at hp1; omega
    have hbg : bg ≤ 200 := by rw [h] at hlen; omega
    show (if bg = 0 then none else if nI bg - 1 = i then some p else none) = _
    rw [if_neg (by omega)]
    by_cases c : nI bg - 1 = i
    · rw [if_pos c]
      have := (hbi bg hbg hb0).mp c
      rw [show (i.toInt + 2 - bg).toNat = 1 by omega]
      show _ = (if pf M pt (live M T) 1001 = 1001 then none else some (pf M pt (live M T) 1001))
      rw [hn, if_neg hne]
    · rw [if_neg c]
      have hne2 : ¬ (bg : Int) - 1 = i.toInt := fun z => c ((hbi bg hbg hb0).mpr z)
      obtain ⟨k, hk⟩ : ∃ k, (i.toInt + 2 - bg).toNat = k + 2 := ⟨(i.toInt - bg).toNat, by omega⟩
      rw [hk]
      show _ = (if pf M pt (live M T) 1001 = 1001 then none else (if pf M (pf M pt (live M T) 1001) (live M T) 1001 = 1001 then none else _))
      rw [hn, if_neg hne, if_pos (pf_out _ _ (fun a ha => by rw [i_lt]; have := hlo a (h ▸ ha); omega))]
  | cons n S ih =>
    intro P bg p pt h hb0 hbl hbi2 hp hp1 hlo hS
    have hnL : n ∈ live M T := by rw [h]; simp
    have hrn := hrg n hnL
    have hn4 : M 4 n = 0 := (lvT hnL).2
    have hbg : bg ≤ 200 := by rw [h, List.length_append] at hlen; omega
    have hsort : ∀ a ∈ S, (M 1 n).toInt ≤ (M 1 a).toInt := fun a ha => by
      have := I.live_sorted
      rw [h, List.pairwise_append, List.pairwise_cons] at this
      exact less_lo (this.2.1.1 a ha)
    have hPn : ∀ a ∈ P, (M 1 a).toInt ≤ (M 1 n).toInt := fun a ha => by
      have := I.live_sorted
      rw [h, List.pairwise_append] at this
      exact less_lo (this.2.2 a ha n List.mem_cons_self)
    have hpn := hS n List.mem_cons_self
    show (if 0 < bg ∧ ¬ p < M 1 n then cls M i S bg (if p < M 2 n then p else M 2 n) else if 0 < bg ∧ nI bg - 1 = i then some p else cls M i S (bg + 1) (M 2 n)) = _
    by_cases c1 : p < M 1 n
    · rw [if_neg (fun z => z.2 c1)]
      rw [i_lt] at c1
      have hn : pf M pt (live M T) 1001 = p := by
        rw [h, pf_app, hp]
        refine pf_keep _ _ (fun a ha => ?_)
        rw [i_lt]
        rcases List.mem_cons.mp ha with rfl | ha
        · omega
        · have := hsort a ha; have := hrg a (by rw [h]; simp [ha]); omega
      have hne : ¬ p = 1001 := fun e => by rw [e, e1001] at hp1; omega
      by_cases c2 : nI bg - 1 = i
      · rw [if_pos ⟨hb0, c2⟩]
        have := (hbi bg hbg hb0).mp c2
        rw [show (i.toInt + 2 - bg).toNat = 1 by omega]
        show _ = (if pf M pt (live M T) 1001 = 1001 then none else some (pf M pt (live M T) 1001))
        rw [hn, if_neg hne]
      · rw [if_neg (fun z => c2 z.2)]
        have hne2 : ¬ (bg : Int) - 1 = i.toInt := fun z => c2 ((hbi bg hbg hb0).mpr z)
        rw [ih (P ++ [n]) (bg + 1) (M 2 n) p (by rw [h]; simp) (by omega) (by simp; omega) (by omega) (by
          rw [pf_app, pf_out P _ (fun a ha => by rw [i_lt]; have := hlo a ha; omega)]
          show (if M 4 n = 0 ∧ p < M 1 n then (if (1001 : Int32) < M 2 n then 1001 else M 2 n) else 1001) = M 2 n
          rw [if_pos ⟨hn4, by rw [i_lt]; exact c1⟩, if_neg (by rw [i_lt, e1001]; omega)]) (by omega) (fun a ha => by
          rcases List.mem_append.mp ha with ha | ha
          · have := hlo a ha; omega
          · rw [List.mem_singleton.mp ha]; omega) (fun a ha => by have := hsort a ha; omega)]
        obtain ⟨k, hk⟩ : ∃ k, (i.toInt + 2 - bg).toNat = k + 1 := ⟨(i.toInt + 1 - bg).toNat, by omega⟩
        rw [hk, show (i.toInt + 2 - ((bg + 1 : Nat) : Int)).toNat = k by omega]
        show _ = (if pf M pt (live M T) 1001 = 1001 then none else prc M (live M T) k (pf M pt (live M T) 1001))
        rw [hn, if_neg hne]
    · rw [if_pos ⟨hb0, c1⟩]
      rw [i_lt] at c1
      have hm : (if p < M 2 n then p else M 2 n).toInt = min p.toInt (M 2 n).toInt := i_min
      refine ih (P ++ [n]) bg _ pt (by rw [h]; simp) hb0 (by simp; omega) hbi2 (by
        rw [pf_app, hp]
        show (if M 4 n = 0 ∧ pt < M 1 n then (if p < M 2 n then p else M 2 n) else p) = _
        rw [if_pos ⟨hn4, by rw [i_lt]; exact hpn⟩]) (by rw [hm]; omega) (fun a ha => by
        rw [hm]
        rcases List.mem_append.mp ha with ha | ha
        · have := hPn a ha; have := hlo a ha; omega
        · rw [List.mem_singleton.mp ha]; omega) (fun a ha => hS a (List.mem_cons_of_mem _ ha))
