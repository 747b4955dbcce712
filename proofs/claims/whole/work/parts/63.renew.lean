/-! ===== the class's renew ===== -/
theorem Enc_uniq {M M' : MT} : ∀ {t : Tr} {up : Int32}, Enc M up t → Enc M' up t → ∀ i ∈ ino t, M 5 i = M' 5 i ∧ M 6 i = M' 6 i ∧ M 7 i = M' 7 i := by
  intro t
  induction t with
  | leaf _ => intro _ _ _ i hi; cases hi
  | branch n l r hl hr =>
    intro up ⟨a1, a2, a3, a4, a5⟩ ⟨b1, b2, b3, b4, b5⟩ i hi
    rcases List.mem_append.mp hi with hi | hi
    · exact hl a4 b4 i hi
    · rcases List.mem_cons.mp hi with rfl | hi
      · exact ⟨a2.trans b2.symm, a3.trans b3.symm, a1.trans b1.symm⟩
      · exact hr a5 b5 i hi
theorem ColT_uniq {M M' : MT} {E : Nat} : ∀ {t : Tr} {dep : Nat}, ColT M E dep t → ColT M' E dep t → ∀ i ∈ ino t, M 8 i = M' 8 i := by
  intro t
  induction t with
  | leaf _ => intro _ _ _ i hi; cases hi
  | branch n l r hl hr =>
    intro dep ⟨a1, a2, a3⟩ ⟨b1, b2, b3⟩ i hi
    rcases List.mem_append.mp hi with hi | hi
    · exact hl a2 b2 i hi
    · rcases List.mem_cons.mp hi with rfl | hi
      · exact a1.trans b1.symm
      · exact hr a3 b3 i hi
theorem ColR_T {M : MT} {c : Nat} (hc : c < 101) : ∀ {t : Tr} {dep : Nat}, dep + tht t < 100 → (∀ j, dep + j = lE c → lP c → cnt t j = 0) → ColR M (rdC c) dep t → ColT M (lE c) dep t := by
  have hE : lE c < 100 := by have := (lv_facts c hc).2.2.2.2.1; unfold lD at this; split at this <;> omega
  intro t
  induction t with
  | leaf _ => intro _ _ _ _; trivial
  | branch n l r hl hr =>
    intro dep hd h ⟨e1, e2, e3⟩
    have hd : dep + (1 + max (tht l) (tht r)) < 100 := hd
    refine ⟨?_, hl (by omega) (fun j hj hp => ?_) e2, hr (by omega) (fun j hj hp => ?_) e3⟩
    · rw [e1]
      unfold rdC
      by_cases p : c + 1 = 2 ^ lE c ∧ 0 < lE c
      · rw [if_pos p, if_neg (nI_m1 (by omega))]
        by_cases q : dep = lE c
        · have := h 0 (by omega) p
          exact absurd this (by show ¬ (1 = 0); decide)
        · rw [if_neg q]
      · rw [if_neg p]
        by_cases q : dep = lE c
        · rw [if_pos (by rw [q]), if_pos q]
        · rw [if_neg (fun x => q (nI_inj (by omega) (by omega) x)), if_neg q]
    · have : cnt l j + cnt r j = 0 := h (j + 1) (by omega) hp
      omega
    · have : cnt l j + cnt r j = 0 := h (j + 1) (by omega) hp
      omega
def RenP (K Kc : MT) (ll : List Nat) : Prop :=
  EncZ Kc (bt 7 ll) [] ∧ ColT Kc (lE ll.length) 0 (bt 7 ll) ∧ CH Kc ll ∧ (∀ r i, (r = 1 ∨ r = 2 ∨ r = 3 ∨ r = 4 ∨ r = 42) → Kc r i = K r i) ∧ Kc 0 10 = K 0 10 ∧ Kc 0 13 = K 0 13 ∧ Kc 0 11 = nI ll.length ∧ Kc 0 14 = K 0 14 + 1 ∧ Kc 0 15 = K 0 15 + nI ll.length ∧ Kc 43 2 = nI ll.length
section RENEW
variable {g00 : AHp} {t b : Nat} {na : Nat → Nat} {K : MT} {T : Tr} {N : Nat} {W : Int} {lim : Nat × Nat} {d : Nat} {R : RT} {X : XT}
/-- the last steps: nodes, rebuilds, rebuilt -/
theorem ren_end {P : AHp → Prop} {gB g : AHp} {D : Nat → Prop} {K1 : MT} {n : Nat} (V : CV gB g t b na D K1) (h6 : K1 43 2 = nI n) (q : ∀ g', CV gB g' t b na D (up2 (up2 (up2 K1 0 11 (nI n)) 0 14 (K1 0 14 + 1)) 0 15 (K1 0 15 + nI n)) → P g') :
    P (sI (sI (sI g t 5 (hI g t 6)) t 8 (hI (sI g t 5 (hI g t 6)) t 8 + 1)) t 9 (hI (sI (sI g t 5 (hI g t 6)) t 8 (hI (sI g t 5 (hI g t 6)) t 8 + 1)) t 9 + hI (sI (sI g t 5 (hI g t 6)) t 8 (hI (sI g t 5 (hI g t 6)) t 8 + 1)) t 5)) := by
  have V1 := V.wtI (k := 5) (by decide) (by decide) (hI g t 6)
  have V2 := V1.wtI (k := 8) (by decide) (by decide) (hI (sI g t 5 (hI g t 6)) t 8 + 1)
  have V3 := V2.wtI (k := 9) (by decide) (by decide) (hI (sI (sI g t 5 (hI g t 6)) t 8 (hI (sI g t 5 (hI g t 6)) t 8 + 1)) t 9 + hI (sI (sI g t 5 (hI g t 6)) t 8 (hI (sI g t 5 (hI g t 6)) t 8 + 1)) t 5)
  refine q _ ?_
  have e1 : hI g t 6 = nI n := by rw [V.liv, h6]
  have e2 : hI (sI g t 5 (hI g t 6)) t 8 + 1 = K1 0 14 + 1 := by rw [V1.rbs, show trR 5 = 0 from rfl, show trF 5 = 11 from rfl, up2_ne (by omega)]
  have e3 : hI (sI (sI g t 5 (hI g t 6)) t 8 (hI (sI g t 5 (hI g t 6)) t 8 + 1)) t 9 = K1 0 15 := by rw [V2.rbt, show trR 5 = 0 from rfl, show trF 5 = 11 from rfl, show trR 8 = 0 from rfl, show trF 8 = 14 from rfl, up2_ne (by omega), up2_ne (by omega)]
  have e4 : hI (sI (sI g t 5 (hI g t 6)) t 8 (hI (sI g t 5 (hI g t 6)) t 8 + 1)) t 5 = nI n := by rw [V2.nod, show trR 5 = 0 from rfl, show trF 5 = 11 from rfl, show trR 8 = 0 from rfl, show trF 8 = 14 from rfl, up2_ne (by omega), up2_at, e1]
  rw [show (up2 (up2 (up2 K1 0 11 (nI n)) 0 14 (K1 0 14 + 1)) 0 15 (K1 0 15 + nI n)) = up2 (up2 (up2 K1 (trR 5) (trF 5) (hI g t 6)) (trR 8) (trF 8) (hI (sI g t 5 (hI g t 6)) t 8 + 1)) (trR 9) (trF 9) (hI (sI (sI g t 5 (hI g t 6)) t 8 (hI (sI g t 5 (hI g t 6)) t 8 + 1)) t 9 + hI (sI (sI g t 5 (hI g t 6)) t 8 (hI (sI g t 5 (hI g t 6)) t 8 + 1)) t 5) by rw [e3, e4, e2, e1]; rfl]
  exact V3
theorem CV.sub {g0 g : AHp} {D D' : Nat → Prop} {K : MT} (V : CV g0 g t b na D K) (hD : ∀ i, D' i → D i) (hp : ∀ i, D' i → ∀ k, nrP k ≠ 98 → pd D' (K (nrP k) i)) (ht : ∀ k, 1 ≤ k → k ≤ 3 → pd D' (K (trR k) (trF k))) : CV g g t b na D' K := by
  obtain ⟨v1, v2, v3, v4, v5, v6⟩ := V
  refine ⟨v1, fun j hj => ?_, fun k h1 h2 => ⟨(v3 k h1 h2).1, ht k h1 h2⟩, v4, fun i j hi hj e => v5 i j (hD i hi) (hD j hj) e, Fr.refl⟩
  obtain ⟨n1, n2, n3, n4, n5, n6⟩ := v2 j (hD j hj)
  exact ⟨n1, n2, n3, n4, n5, fun k hk => ⟨(n6 k hk).1, hp j hj k hk⟩⟩
theorem C_renew {g : AHp} (V : CV g00 g t b na (fun i => i ∈ ino T) K) (I : TI K T N W) (C : CH K (ino T)) (hl : K 43 2 = nI (live K T).length) (hd : 12 < d)
    (q : ∀ gB g' Kc, CV gB g' t b na (fun i => i ∈ ino T) Kc → NulP g00 gB b ((ino T).filter fun x => decide (¬ K 4 x = 0)) → RenP K Kc (live K T) → R (some (vi (nI (gone K T).length))) g') : WM lim d j_Tr_renew [vr (some t)] g R X := by
  have hlen : (live K T).length ≤ 100 := by have := I.len; have := I.2.2.2.2.2.2.2.2.2.1; omega
  have hgone : hI g t 5 - hI g t 6 = nI (gone K T).length := by
    rw [V.nod, V.liv, hl, I.2.2.2.2.2.2.2.2.1, nI_sub (by have := I.len; omega)]; congr 1; have := I.len; omega
  have hlD : ∀ x ∈ live K T, x ∈ ino T := fun x hx => (lvT hx).1
  have hln : (live K T).Nodup := pw_nodup I.live_sorted
  have hl5 : ∀ x ∈ live K T, x < 500 := fun x hx => (I.lt (hlD x hx)).2
  have ib : ino (bt 7 (live K T)) = live K T := ino_bt 7 _ (by omega)
  refine B_Tr_renew_0 ⟨V.kt, V.kt, all1.mpr V.kt, by omega, C_unchain V I C (by omega) (fun gB g1 K1 V1 C1 o1 NP => ?_)⟩
  have h43 : K1 43 2 = nI (live K T).length := by rw [o1 43 2 (by decide) (by decide) (by omega)]; exact hl
  refine ⟨V1.kt, V1.kt, V1.kt, by omega, ?_⟩
  rw [V1.liv, h43]
  refine C_redDepth hlen (onI_v ⟨by omega, ?_⟩)
  rw [V1.fi.1, C1.1, show hdI (live K T) = hdI (live K T ++ []) by rw [List.append_nil]]
  rw [← nI_0]
  refine C_build (L := live K T) hlD hln 7 (live K T) [] [] 0 (d - 1) g1 K1 _ (by simp) C1 (by omega) hlen (by omega) (by omega) V1 (fun g2 K2 V2 B2 => onO_v ?_)
  rw [hgone]
  obtain ⟨⟨up, E2⟩, Co2, F2⟩ := B2
  have o2 : ∀ r i, (r ≠ 5 ∧ r ≠ 6 ∧ r ≠ 7 ∧ r ≠ 8) → K2 r i = K1 r i := fun r i h => F2 r i (Or.inl h)
  have V3 : CV gB (sP g2 t 1 (oa na (rootOf (bt 7 (live K T))))) t b na (fun i => i ∈ ino T) (up2 K2 0 9 (rootOf (bt 7 (live K T)))) := V2.wtP (k := 1) (by decide) (by decide) (root_pd (by rw [ib]; exact hlD))
  have hro : hP (sP g2 t 1 (oa na (rootOf (bt 7 (live K T))))) t 1 = oa na (rootOf (bt 7 (live K T))) := by rw [V3.ro.1, up2_at]
  refine ⟨V2.kt, V3.kt, ?_⟩
  rw [hro]
  -- whatever the root's parent has become, the rest is the same
  have fin : ∀ {g4 : AHp} {K4 : MT}, CV gB g4 t b na (fun i => i ∈ ino T) K4 → Enc K4 (-1) (bt 7 (live K T)) → (∀ r i, r ≠ 7 → K4 r i = up2 K2 0 9 (rootOf (bt 7 (live K T))) r i) → R (some (vi (nI (gone K T).length))) (sI (sI (sI g4 t 5 (hI g4 t 6)) t 8 (hI (sI g4 t 5 (hI g4 t 6)) t 8 + 1)) t 9 (hI (sI (sI g4 t 5 (hI g4 t 6)) t 8 (hI (sI g4 t 5 (hI g4 t 6)) t 8 + 1)) t 9 + hI (sI (sI g4 t 5 (hI g4 t 6)) t 8 (hI (sI g4 t 5 (hI g4 t 6)) t 8 + 1)) t 5)) := by
    intro g4 K4 V4 E4 o4
    have o41 : ∀ r i, (r ≠ 5 ∧ r ≠ 6 ∧ r ≠ 7 ∧ r ≠ 8) → ¬ (r = 0 ∧ i = 9) → K4 r i = K1 r i := fun r i h h0 => by rw [o4 r i h.2.2.1, up2_ne h0, o2 r i h]
    refine ren_end (P := fun h => R (some (vi (nI (gone K T).length))) h) (n := (live K T).length) V4 (by rw [o41 43 2 (by omega) (by omega)]; exact h43) (fun g5 V5 => q gB g5 _ V5 NP ?_)
    have o5 : ∀ r i, ¬ (r = 0 ∧ (i = 11 ∨ i = 14 ∨ i = 15)) → up2 (up2 (up2 K4 0 11 (nI (live K T).length)) 0 14 (K4 0 14 + 1)) 0 15 (K4 0 15 + nI (live K T).length) r i = K4 r i := fun r i h => by rw [up2_ne (by omega), up2_ne (by omega), up2_ne (by omega)]
    have ho : ∀ r i, r ≠ 40 → r ≠ 41 → r ≠ 5 → r ≠ 6 → r ≠ 7 → r ≠ 8 → ¬ (r = 0 ∧ (i = 9 ∨ i = 11 ∨ i = 14 ∨ i = 15)) → ¬ (r = 43 ∧ (i = 0 ∨ i = 1)) → up2 (up2 (up2 K4 0 11 (nI (live K T).length)) 0 14 (K4 0 14 + 1)) 0 15 (K4 0 15 + nI (live K T).length) r i = K r i := fun r i a1 a2 a3 a4 a5 a6 a7 a8 => by
      rw [o5 r i (by omega), o41 r i ⟨a3, a4, a5, a6⟩ (by omega), o1 r i a1 a2 a8]
    refine ⟨⟨Enc_congr (fun x _ => ⟨(o5 5 x (by omega)).symm, (o5 6 x (by omega)).symm, (o5 7 x (by omega)).symm⟩) E4, ?_⟩, ?_, ?_, fun r i h => ?_, ?_, ?_, ?_, ?_, ?_, ?_⟩
    · show up2 _ _ _ _ 0 9 = _
      rw [o5 0 9 (by omega), o4 0 9 (by omega), up2_at]
    · refine ColT_congr (M := K2) (fun x _ => ?_) (ColR_T (by omega) (by have := tht_bt 7 (live K T); omega) (fun j hj hp => ?_) Co2)
      · rw [o5 8 x (by omega), o4 8 x (by omega), up2_ne (by omega)]
      · rw [cnt_bt, show j = lE (live K T).length by omega]; exact (lv_facts _ (by omega)).2.2.2.1 hp
    · exact C1.congr (fun i _ => ⟨by rw [o5 40 i (by omega), o41 40 i (by omega) (by omega)], by rw [o5 41 i (by omega), o41 41 i (by omega) (by omega)]⟩) (by rw [o5 43 0 (by omega), o41 43 0 (by omega) (by omega)]) (by rw [o5 43 1 (by omega), o41 43 1 (by omega) (by omega)])
    · exact ho r i (by omega) (by omega) (by omega) (by omega) (by omega) (by omega) (by omega) (by omega)
    · exact ho 0 10 (by omega) (by omega) (by omega) (by omega) (by omega) (by omega) (by omega) (by omega)
    · exact ho 0 13 (by omega) (by omega) (by omega) (by omega) (by omega) (by omega) (by omega) (by omega)
    · rw [up2_ne (by omega), up2_ne (by omega), up2_at]
    · rw [up2_ne (by omega), up2_at, o41 0 14 (by omega) (by omega), o1 0 14 (by omega) (by omega) (by omega)]
    · rw [up2_at, o41 0 15 (by omega) (by omega), o1 0 15 (by omega) (by omega) (by omega)]
    · rw [o5 43 2 (by omega), o41 43 2 (by omega) (by omega)]; exact h43
  rcases V3.nul (root_pd (D := fun i => i ∈ ino T) (t := bt 7 (live K T)) (by rw [ib]; exact hlD)) with ⟨er, eo⟩ | ⟨r, hr, er, eo, -⟩
  · rw [eo] at V3 ⊢
    rw [ifN_n]
    have E3 : Enc (up2 K2 0 9 (rootOf (bt 7 (live K T)))) (-1) (bt 7 (live K T)) := by
      cases hb : bt 7 (live K T) with
      | leaf _ => trivial
      | branch n l' r' => rw [hb] at er; exact (nI_m1 (n := n) (by have := hl5 n (by rw [← ib, hb]; simp [ino_b]); omega) er).elim
    have F := fin V3 E3 (fun _ _ _ => rfl)
    exact ⟨V3.kt, V3.kt, by rw [hk_sI]; exact V3.kt, by rw [hk_sI]; exact V3.kt, by rw [hk_sI, hk_sI]; exact V3.kt, by rw [hk_sI, hk_sI]; exact V3.kt, by rw [hk_sI, hk_sI]; exact V3.kt, rfl, F⟩
  · have V4 := V3.wnP (k := 6) hr (by decide) (v := -1) (Or.inl rfl)
    rw [oa_n] at V4
    rw [eo] at V3 V4 ⊢
    rw [ifN_s, onR_s]
    have hrl : r ∈ live K T := by
      rcases root_in (t := bt 7 (live K T)) with c | ⟨n, hn, c⟩
      · rw [er] at c; exact (nI_m1 (n := r) (by have := V3.lt hr; omega) c).elim
      · rw [er] at c; rw [ib] at hn; rw [nI_inj (V3.lt hr) (hl5 n hn) c]; exact hn
    have E4 : Enc (up2 (up2 K2 0 9 (rootOf (bt 7 (live K T)))) 7 r (-1)) (-1) (bt 7 (live K T)) := by
      refine Enc_re (M := K2) (up := up) (by rw [ib]; exact hln) (fun n hn => ⟨by rw [up2_ne (by omega), up2_ne (by omega)], by rw [up2_ne (by omega), up2_ne (by omega)], ?_⟩) (by rw [ib]; exact hl5) (fun n hn e => ?_) E2
      · by_cases c : n = r
        · exact Or.inl (by rw [er, c])
        · exact Or.inr (by rw [up2_ne (by omega), up2_ne (by omega)])
      · rw [ib] at hn
        rw [nI_inj (hl5 n hn) (V3.lt hr) (e.symm.trans er), up2_at]
    have F := fin V4 E4 (fun r' i h => up2_ne (fun c => h c.1))
    exact ⟨V3.kt, V3.kn hr, V4.kt, V4.kt, by rw [hk_sI]; exact V4.kt, by rw [hk_sI]; exact V4.kt, by rw [hk_sI, hk_sI]; exact V4.kt, by rw [hk_sI, hk_sI]; exact V4.kt, by rw [hk_sI, hk_sI]; exact V4.kt, rfl, F⟩
end RENEW
