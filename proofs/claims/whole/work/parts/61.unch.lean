/-! ===== the class: the removed ones leave the chain ===== -/
def NulP (g0 gB : AHp) (b : Nat) (Z : List Nat) : Prop := hsz gB = hsz g0 ∧ hsu gB = hsu g0 ∧ hk gB = hk g0 ∧ hLen gB = hLen g0 ∧ hI gB = hI g0 ∧ hJ gB = hJ g0 ∧ (∀ a, a ≠ b → hP gB a = hP g0 a) ∧ ∀ i, hP gB b i = if i ∈ Z then none else hP g0 b i
theorem NulP.refl {g : AHp} {b : Nat} : NulP g g b [] := ⟨rfl, rfl, rfl, rfl, rfl, rfl, fun _ _ => rfl, fun i => by rw [if_neg (by intro c; cases c)]⟩
theorem NulP.step {g0 gB : AHp} {b i : Nat} {Z : List Nat} (h : NulP g0 gB b Z) : NulP g0 (sP gB b i none) b (Z ++ [i]) := by
  obtain ⟨h1, h2, h3, h4, h5, h6, h7, h8⟩ := h
  refine ⟨h1, h2, h3, h4, h5, h6, fun a ha => (up2_offI ha).trans (h7 a ha), fun j => ?_⟩
  show up2 (hP gB) b i none b j = _
  unfold up2
  by_cases c : j = i
  · rw [if_pos ⟨rfl, c⟩, if_pos (by rw [c]; simp)]
  · rw [if_neg (fun x => c x.2), h8]
    by_cases c2 : j ∈ Z
    · rw [if_pos c2, if_pos (by simp [c2])]
    · rw [if_neg c2, if_neg (by simp [c2, c])]
theorem CV.wb {g0 g : AHp} {t b : Nat} {na : Nat → Nat} {D : Nat → Prop} {K : MT} (V : CV g0 g t b na D K) (i : Nat) : CV (sP g0 b i none) (sP g b i none) t b na D K := by
  have htb : t ≠ b := fun c => by have h1 := V.1.1; rw [c, V.1.2.2.2.1] at h1; cases h1
  have hnb := fun j (hj : D j) => V.nb hj
  obtain ⟨v1, v2, v3, v4, v5, v6⟩ := V
  have hbo : ¬ own t na D b := fun c => by
    rcases c with c | ⟨j, hj, c⟩
    · exact htb c.symm
    · exact hnb j hj c.symm
  refine ⟨⟨v1.1, v1.2.1, ?_, v1.2.2.2⟩, fun j hj => ?_, fun k h1 h2 => ?_, v4, v5, v6.1, v6.2.1, v6.2.2.1, v6.2.2.2.1, fun a ha => ⟨(v6.2.2.2.2 a ha).1, ?_, (v6.2.2.2.2 a ha).2.2⟩⟩
  · rw [hP_sP, up2_offI htb]; exact v1.2.2.1
  · obtain ⟨n1, n2, n3, n4, n5, n6⟩ := v2 j hj
    refine ⟨n1, n2, n3, n4, n5, fun k hk => ?_⟩
    rw [hP_sP, up2_offI (hnb j hj)]; exact n6 k hk
  · rw [hP_sP, up2_offI htb]; exact v3 k h1 h2
  · rw [hP_sP, hP_sP]
    by_cases c : a = b
    · subst c
      funext j; unfold up2
      rw [(v6.2.2.2.2 a ha).2.1]
    · rw [up2_offI c, up2_offI c]; exact (v6.2.2.2.2 a ha).2.1
theorem chM_41 {K : MT} {s : Int32} {n j : Nat} (h1 : j ≠ n) (h2 : ¬ s = -1 → j ≠ s.toNatClampNeg) : chM K s n (-1) 41 j = K 41 j := by
  unfold chM chC
  rw [if_pos rfl, up2_ne (by omega)]
  unfold chB
  split
  · rw [up2_ne (by omega)]; unfold chA; rw [up2_ne (by omega), up2_ne (by omega)]
  · rename_i c
    have := h2 c
    rw [up2_ne (by omega)]; unfold chA; rw [up2_ne (by omega), up2_ne (by omega)]
section UNCH
variable {g00 : AHp} {t b : Nat} {na : Nat → Nat} {K : MT} {T : Tr} {N : Nat} {W : Int} {lim : Nat × Nat} {d : Nat} {R : RT} {X : XT}
theorem C_unch15 (I : TI K T N W) (C : CH K (ino T)) (hd : 0 < d)
    (q : ∀ gB g' K', CV gB g' t b na (fun i => i ∈ ino T) K' → CH K' (live K T) → (∀ r i, r ≠ 40 → r ≠ 41 → ¬ (r = 43 ∧ (i = 0 ∨ i = 1)) → K' r i = K r i) → NulP g00 gB b ((ino T).filter fun x => decide (¬ K 4 x = 0)) → R none g') :
    ∀ (S P : List Nat) (gB g : AHp) (K' : MT) (l2 : Option AV), ino T = P ++ S → CV gB g t b na (fun i => i ∈ ino T) K' → CH K' (P.filter fun x => decide (K 4 x = 0)) → (∀ j ∈ S, K' 41 j = K 41 j) → (∀ r i, r ≠ 40 → r ≠ 41 → ¬ (r = 43 ∧ (i = 0 ∨ i = 1)) → K' r i = K r i) → NulP g00 gB b (P.filter fun x => decide (¬ K 4 x = 0)) →
    WP lim d j_Tr_unchainRemoved 15 [some (vr (some t)), some (vr (oa na (hdI S))), l2] [] g R X := by
  intro S
  induction S with
  | nil =>
    intro P gB g K' l2 h V CC _ ho hN
    rw [List.append_nil] at h
    refine B_Tr_unchainRemoved_15 ?_
    rw [show hdI [] = (-1 : Int32) from rfl, oa_n, ifN_n]
    exact ⟨rfl, q gB g K' V (by unfold live; rw [h]; exact CC) ho (by rw [h]; exact hN)⟩
  | cons i S ih =>
    intro P gB g K' l2 h V CC h41 ho hN
    have hi : i ∈ ino T := by rw [h]; simp
    have i5 := V.lt hi
    have hnd := I.nodup
    rw [h, List.nodup_append, List.nodup_cons] at hnd
    obtain ⟨ndP, ⟨niS, ndS⟩, nd3⟩ := hnd
    have hiP : i ∉ P := fun c => nd3 i c i List.mem_cons_self rfl
    have e41 : K' 41 i = hdI S := by rw [h41 i List.mem_cons_self]; exact (CH.at (h ▸ C : CH K (P ++ i :: S))).2
    have e4 : K' 4 i = K 4 i := ho 4 i (by decide) (by decide) (by omega)
    have hPb : ∀ x ∈ P, x < 500 := fun x hx => (I.lt (by rw [h]; exact List.mem_append_left _ hx)).2
    refine B_Tr_unchainRemoved_15 ?_
    rw [show hdI (i :: S) = nI i from rfl, oa_s i5, ifN_s, onR_s, (V.af hi).1, e41, onR_s, V.st hi, e4]
    refine ⟨V.kn hi, V.kn hi, ?_⟩
    by_cases c0 : K 4 i = 0
    · rw [if_pos c0]
      have hf : (P ++ [i]).filter (fun x => decide (K 4 x = 0)) = P.filter (fun x => decide (K 4 x = 0)) ++ [i] := by rw [List.filter_append, List.filter_cons, if_pos (decide_eq_true c0)]; rfl
      have hf2 : (P ++ [i]).filter (fun x => decide (¬ K 4 x = 0)) = P.filter (fun x => decide (¬ K 4 x = 0)) := by rw [List.filter_append, List.filter_cons, if_neg (by simp [c0])]; simp
      have hLm : ∀ x ∈ P.filter (fun x => decide (K 4 x = 0)), x ∈ P := fun x hx => (List.mem_filter.mp hx).1
      have hs : pd (fun i => i ∈ ino T) (laI (P.filter fun x => decide (K 4 x = 0))) := laI_pd (fun x hx => by rw [h]; exact List.mem_append_left _ (hLm x hx))
      refine ⟨V.kt, all1.mpr V.kt, hd, ?_⟩
      rw [V.la.1, CC.2.1, ← oa_n (na := na)]
      refine C_chain V hi hs (Or.inl rfl) (fun g1 V1 => ?_)
      refine ih (P ++ [i]) gB g1 _ _ (by rw [h]; simp) V1 ?_ (fun j hj => ?_) (fun r j h1 h2 h3 => ?_) (by rw [hf2]; exact hN)
      · rw [hf]
        have := CH_ins (n := i) (A := P.filter fun x => decide (K 4 x = 0)) (B := []) (by rw [List.append_nil]; exact CC) (by rw [List.append_nil]; exact fun c => hiP (hLm i c)) (by rw [List.append_nil]; exact List.Pairwise.filter _ ndP) (fun x hx => hPb x (hLm x (by rw [List.append_nil] at hx; exact hx)))
        exact this
      · have hjP : j ∉ P := fun c => nd3 j c j (List.mem_cons_of_mem _ hj) rfl
        have hji : j ≠ i := fun c => niS (by rw [← c]; exact hj)
        rw [chM_41 hji (fun hc e => ?_)]
        · exact h41 j (List.mem_cons_of_mem _ hj)
        · rcases List.eq_nil_or_concat (P.filter fun x => decide (K 4 x = 0)) with c | ⟨A, x, c⟩
          · rw [c] at hc; exact hc rfl
          · rw [List.concat_eq_append] at c
            have hx : x ∈ P := hLm x (by rw [c]; simp)
            rw [c, laI_app, nI_clamp (by have := hPb x hx; omega)] at e
            exact hjP (e ▸ hx)
      · rw [chM_o ⟨h1, h2, h3⟩]; exact ho r j h1 h2 h3
    · rw [if_neg c0, onR_s, V.id hi, onR_s, V.id hi, V.1.2.2.1, onR_s, V.1.2.2.2.1, V.1.2.2.2.2.1, onR_s, V.id hi, onR_s, V.1.2.2.2.1, V.1.2.2.2.2.1]
      refine ⟨V.kn hi, ?_⟩
      rw [if_neg (by rw [← nI_0]; exact nI_nlt (Nat.zero_le _) (by omega))]
      refine ⟨V.kn hi, V.kt, by omega, ?_⟩
      rw [if_pos (nI_lt i5 (by omega)), nI_clamp (by omega)]
      have hf : (P ++ [i]).filter (fun x => decide (K 4 x = 0)) = P.filter (fun x => decide (K 4 x = 0)) := by rw [List.filter_append, List.filter_cons, if_neg (by simp [c0])]; simp
      have hf2 : (P ++ [i]).filter (fun x => decide (¬ K 4 x = 0)) = P.filter (fun x => decide (¬ K 4 x = 0)) ++ [i] := by rw [List.filter_append, List.filter_cons, if_pos (by simp [c0])]; rfl
      refine ⟨V.kt, V.kn hi, rfl, ix_nI i5 (by decide), fun _ hb => (by cases hb), ?_⟩
      exact ih (P ++ [i]) _ _ K' _ (by rw [h]; simp) (V.wb i) (by rw [hf]; exact CC) (fun j hj => h41 j (List.mem_cons_of_mem _ hj)) ho (by rw [hf2]; exact hN.step)
theorem C_unchain {g : AHp} (V : CV g00 g t b na (fun i => i ∈ ino T) K) (I : TI K T N W) (C : CH K (ino T)) (hd : 0 < d)
    (q : ∀ gB g' K', CV gB g' t b na (fun i => i ∈ ino T) K' → CH K' (live K T) → (∀ r i, r ≠ 40 → r ≠ 41 → ¬ (r = 43 ∧ (i = 0 ∨ i = 1)) → K' r i = K r i) → NulP g00 gB b ((ino T).filter fun x => decide (¬ K 4 x = 0)) → R none g') : WM lim d j_Tr_unchainRemoved [vr (some t)] g R X := by
  have V1 := (V.wtP (k := 2) (by decide) (by decide) (v := -1) (Or.inl rfl)).wtP (k := 3) (by decide) (by decide) (v := -1) (Or.inl rfl)
  rw [oa_n] at V1
  refine B_Tr_unchainRemoved_0 ⟨V.kt, V.kt, V.kt, ?_⟩
  rw [V.fi.1, C.1]
  refine C_unch15 I C hd q (ino T) [] g00 _ _ none rfl V1 ⟨?_, ?_, trivial⟩ (fun j _ => ?_) (fun r i h1 h2 h3 => ?_) NulP.refl
  · show up2 (up2 K 43 0 (-1)) 43 1 (-1) 43 0 = _
    rw [up2_ne (by omega), up2_at]; rfl
  · show up2 (up2 K 43 0 (-1)) 43 1 (-1) 43 1 = _
    rw [up2_at]; rfl
  · show up2 (up2 K 43 0 (-1)) 43 1 (-1) 41 j = _
    rw [up2_ne (by omega), up2_ne (by omega)]
  · show up2 (up2 K 43 0 (-1)) 43 1 (-1) r i = _
    rw [up2_ne (by omega), up2_ne (by omega)]
def rdL : Nat → Nat → Nat → Nat → Int32
  | 0, c, F, k => if F = c then -1 else nI k
  | f + 1, c, F, k => if F < c then rdL f c (2 * F + 1) (k + 1) else if F = c then -1 else nI k
theorem C_rd4 {g : AHp} {c : Nat} (hc : c ≤ 100) : ∀ (f F k : Nat), c < 2 ^ f * (F + 1) → F < 500 → k + f ≤ 30 → R (some (vi (rdL f c F k))) g → WP lim d j_Tr_redDepth 4 [some (vi (nI c)), some (vi (nI k)), some (vi (nI F))] [] g R X := by
  have fin : ∀ F k, ¬ F < c → F < 500 → R (some (vi (if F = c then -1 else nI k))) g → (if nI F < nI c then (if nI k < (40 : Int32) then (WP lim d j_Tr_redDepth 4 [some (vi (nI c)), some (vi (nI k + (1 : Int32))), some (vi (((2 : Int32) * nI F) + (1 : Int32)))] [] g R X) else (if nI F = nI c then (([] : List AV) = [] ∧ R (some (vi (-1 : Int32))) g) else (([] : List AV) = [] ∧ R (some (vi (nI k))) g))) else (if nI F = nI c then (([] : List AV) = [] ∧ R (some (vi (-1 : Int32))) g) else (([] : List AV) = [] ∧ R (some (vi (nI k))) g))) := by
    intro F k h hF q
    rw [if_neg (nI_nlt (by omega) (by omega))]
    by_cases e : F = c
    · rw [if_pos e] at q; rw [if_pos (by rw [e])]; exact ⟨rfl, q⟩
    · rw [if_neg e] at q; rw [if_neg (fun x => e (nI_inj (by omega) (by omega) x))]; exact ⟨rfl, q⟩
  intro f
  induction f with
  | zero => intro F k h hF hk q; exact B_Tr_redDepth_4 (fin F k (by omega) hF q)
  | succ f ih =>
    intro F k h hF hk q
    by_cases c1 : F < c
    · refine B_Tr_redDepth_4 ?_
      rw [if_pos (nI_lt c1 (by omega)), show (40 : Int32) = nI 40 from rfl, if_pos (nI_lt (by omega) (by omega)), nI_1]
      have e : (2 : Int32) * nI F + 1 = nI (2 * F + 1) := by
        have s1 : ((2 : Int32) * nI F).toInt = 2 * F := by rw [i_mul (by rw [nI_toInt (by omega)]; show _ ≤ (2 : Int) * _; omega) (by rw [nI_toInt (by omega)]; show (2 : Int) * _ < _; omega), nI_toInt (by omega)]; rfl
        rw [i_eq, i_add (by rw [s1]; show _ ≤ _ + (1 : Int); omega) (by rw [s1]; show _ + (1 : Int) < _; omega), s1, nI_toInt (by omega)]; rfl
      rw [e]
      have q : R (some (vi (if F < c then rdL f c (2 * F + 1) (k + 1) else if F = c then -1 else nI k))) g := q
      rw [if_pos c1] at q
      exact ih (2 * F + 1) (k + 1) (by rw [Nat.pow_succ] at h; rw [show 2 * F + 1 + 1 = 2 * (F + 1) by omega, ← Nat.mul_assoc]; exact h) (by omega) (by omega) q
    · have q : R (some (vi (if F < c then rdL f c (2 * F + 1) (k + 1) else if F = c then -1 else nI k))) g := q
      rw [if_neg c1] at q
      exact B_Tr_redDepth_4 (fin F k c1 hF q)
set_option maxRecDepth 100000 in
theorem rd_facts : ∀ c, c < 101 → rdL 7 c 1 0 = if c + 1 = 2 ^ lE c ∧ 0 < lE c then -1 else nI (lE c) := by decide +kernel
/-- the depth that becomes red, as the class says it -/
def rdC (c : Nat) : Int32 := if c + 1 = 2 ^ lE c ∧ 0 < lE c then -1 else nI (lE c)
theorem C_redDepth {g : AHp} {c : Nat} (hc : c ≤ 100) (q : R (some (vi (rdC c))) g) : WM lim d j_Tr_redDepth [vi (nI c)] g R X := by
  refine B_Tr_redDepth_0 ?_
  rw [← nI_0, show (1 : Int32) = nI 1 from rfl]
  exact C_rd4 hc 7 1 0 (by omega) (by omega) (by omega) (by rw [rd_facts c (by omega)]; exact q)
end UNCH
