/-! ===== parseFilter of the class ===== -/
section PRSC
variable {h : AHp} {c F : Nat} {K : MT} {nf : Nat} {FL : Nat → List SP} {NB : Nat → Int32} {fa : Nat → Nat} {lim : Nat × Nat} {d : Nat} {R : RT} {X : XT} {tx m n : Nat}
/-- a new reader -/
theorem C_tei {X : XT} (hd : 0 < d) (hz : hsz h + 2 ≤ lim.1) (hu : hsu h + 12 ≤ lim.2) (htx : tx < hsz h) (kt : hk h tx = 8) (lt : hLen h tx = 60) (hn : n ≤ 60) (q : ∀ g, Keep h g (fun _ => False) → hsz g = hsz h + 2 → hsu g = hsu h + 12 → hk g (hsz h) = 4 → hP g (hsz h) 0 = some tx → hP g (hsz h) 3 = some (hsz h + 1) → hP g (hsz h) 8 = none → RI g (hsz h) n nf 0 true 0 0 → FCh g (hsz h + 1) [] [] → R none g) : WM lim d j_Te_init [vr (some (hsz h)), vr (some tx), vi (nI n), vi (nI nf)] (nw h 4 9) R X := by
  have kN : hk (nw h 4 9) (hsz h) = 4 := up1_on _
  have k0 : Keep h (nw h 4 9) (fun _ => False) := nw_keep
  have z0 : hsz (nw h 4 9) = hsz h + 1 := rfl
  have u0 : hsu (nw h 4 9) = hsu h + 9 := rfl
  have l0 : hLen (nw h 4 9) tx = 60 := (k0.2 tx htx).2.1.trans lt
  have t0 : hk (nw h 4 9) tx = 8 := (k0.2 tx htx).1.trans kt
  generalize nw h 4 9 = g0 at kN k0 z0 u0 l0 t0
  have ll : ∀ v, hLen (sP g0 (hsz h) 0 v) = hLen g0 := fun _ => rfl
  refine B_Te_init_0 ?_
  rw [onR_s]
  simp only [hk_sP, hk_sI, ll, l0]
  have em : (if nI n < nI 60 then nI n else nI 60) = nI n := by
    by_cases e : n = 60
    · rw [e, if_neg (by decide)]
    · rw [if_pos (nI_lt (by omega) (by omega))]
  rw [em]
  have k1 : Keep h (sI (sI (sP g0 (hsz h) 0 (some tx)) (hsz h) 1 (nI n)) (hsz h) 2 (nI nf)) (fun _ => False) := sI_kp (sI_kp (sP_kp k0 (Or.inl (Nat.le_refl _))) (Or.inl (Nat.le_refl _))) (Or.inl (Nat.le_refl _))
  have z1 : hsz (sI (sI (sP g0 (hsz h) 0 (some tx)) (hsz h) 1 (nI n)) (hsz h) 2 (nI nf)) = hsz h + 1 := z0
  have u1 : hsu (sI (sI (sP g0 (hsz h) 0 (some tx)) (hsz h) 1 (nI n)) (hsz h) 2 (nI nf)) = hsu h + 9 := u0
  have kr1 : hk (sI (sI (sP g0 (hsz h) 0 (some tx)) (hsz h) 1 (nI n)) (hsz h) 2 (nI nf)) (hsz h) = 4 := kN
  have p0 : hP (sI (sI (sP g0 (hsz h) 0 (some tx)) (hsz h) 1 (nI n)) (hsz h) 2 (nI nf)) (hsz h) 0 = some tx := by rw [hP_sI, hP_sI, hP_sP, hPq_at]
  have i1 : hI (sI (sI (sP g0 (hsz h) 0 (some tx)) (hsz h) 1 (nI n)) (hsz h) 2 (nI nf)) (hsz h) 1 = nI n := by rw [hI_ne (by omega), hI_at]
  have i2 : hI (sI (sI (sP g0 (hsz h) 0 (some tx)) (hsz h) 1 (nI n)) (hsz h) 2 (nI nf)) (hsz h) 2 = nI nf := hI_at
  refine ⟨kN, ⟨by rw [t0]; decide, by rw [t0]; decide⟩, kN, kN, ?_⟩
  generalize sI (sI (sP g0 (hsz h) 0 (some tx)) (hsz h) 1 (nI n)) (hsz h) 2 (nI nf) = g1 at k1 z1 u1 kr1 p0 i1 i2
  refine ⟨by omega, by omega, hd, C_filI (fun g2 z2 u2 k2 C2 => ?_)⟩
  have zr : hsz h < hsz g1 := by omega
  have k2r := k2.2 (hsz h) zr
  have c2r := k2r.2.2 (fun z => z)
  have kr2 : hk g2 (hsz h) = 4 := k2r.1.trans kr1
  rw [z1] at C2 ⊢
  have k02 : Keep h g2 (fun _ => False) := k1.trans k2
  refine ⟨kr2, kr2, kr2, Or.inr rfl, kr2, kr2, kr2, trivial, ?_⟩
  have L : hsz h ≤ hsz h := Nat.le_refl _
  have ne : hsz h + 1 ≠ hsz h := by omega
  refine q _ (sP_kp (sI_kp (sI_kp (sI_kp (sI_kp (sP_kp k02 (Or.inl L)) (Or.inl L)) (Or.inl L)) (Or.inl L)) (Or.inl L)) (Or.inl L)) (by show hsz g2 = _; omega) (by show hsu g2 = _; omega) kr2 ?_ ?_ ?_ ⟨?_, ?_, ?_, ?_, ?_, ?_⟩ ?_
  · rw [hP_sP, hPq_ne (by omega), hP_sI, hP_sI, hP_sI, hP_sI, hP_sP, hPq_ne (by omega), c2r.2.1]; exact p0
  · rw [hP_sP, hPq_ne (by omega), hP_sI, hP_sI, hP_sI, hP_sI, hP_sP, hPq_at]
  · rw [hP_sP, hPq_at]
  · rw [hI_sP, hI_ne (by omega), hI_ne (by omega), hI_ne (by omega), hI_ne (by omega), hI_sP, c2r.1]; exact i1
  · rw [hI_sP, hI_ne (by omega), hI_ne (by omega), hI_ne (by omega), hI_ne (by omega), hI_sP, c2r.1]; exact i2
  · rw [hI_sP, hI_ne (by omega), hI_ne (by omega), hI_ne (by omega), hI_at]; rfl
  · rw [hI_sP, hI_ne (by omega), hI_ne (by omega), hI_at]; rfl
  · rw [hI_sP, hI_ne (by omega), hI_at]; rfl
  · rw [hI_sP, hI_at]; rfl
  · obtain ⟨f1, f2, f3, f4, f5, f6⟩ := C2
    refine ⟨f1, f2, ?_, ?_, trivial, f6⟩
    · rw [hP_sP, hPq_ne (fun z => ne z.1), hP_sI, hP_sI, hP_sI, hP_sI, hP_sP, hPq_ne (fun z => ne z.1)]; exact f3
    · rw [hP_sP, hPq_ne (fun z => ne z.1), hP_sI, hP_sI, hP_sI, hP_sI, hP_sP, hPq_ne (fun z => ne z.1)]; exact f4
theorem sI_kp2 {h g : AHp} {a k : Nat} {v : Int32} {A : Nat → Prop} (K : Keep h g A) : Keep (sI h a k v) (sI g a k v) A := by
  refine ⟨K.1, fun x hx => ?_⟩
  have kk := K.2 x hx
  refine ⟨kk.1, kk.2.1, fun hA => ?_⟩
  have cc := kk.2.2 hA
  refine ⟨?_, cc.2.1, cc.2.2⟩
  show up2 (hI g) a k v x = up2 (hI h) a k v x
  funext j
  unfold up2
  rw [cc.1]
theorem C_parseFilter (hc : hk h c = 6) (hcz : c < hsz h) (Y : FA h c F FL NB fa nf) (Z : TX h c tx m K n) (hd : 8 < d) (hz : hsz h + 70 ≤ lim.1) (hu : hsu h + 400 ≤ lim.2) {res : Option (List SP) × Nat} (hr : RsA (K 23) n nf 0 true 0 0 [] [] res) (q1 : nf = 8 → thr lim X 2 h) (q2 : nf < 8 → ∀ g p, res = (none, p) → Keep h g (fun x => x = c) → hsz g ≤ hsz h + 70 → hsu g ≤ hsu h + 400 → (∀ k, k ≠ 5 → hI g c k = hI h c k) → hI g c 5 = 0 → hP g c = hP h c → R (some (vi (-100 - nI p))) g) (q3 : nf < 8 → ∀ g L p, res = (some L, p) → AFP h g c F FL NB fa nf L → hI g c 5 = 0 → R (some (vi (nI nf))) g) : WM lim d j_It_parseFilter [vr (some c)] h R X := by
  obtain ⟨t1, t2, t3, t4, t5, t6, t7, t8, t9, t10⟩ := Z
  have h8 := Y.1
  refine B_It_parseFilter_0 ⟨all1.mpr hc, by omega, C_room hc Y.2.1 Y.1 (fun hn8 => ?_) (fun e => q1 e)⟩
  have kw : Keep h (nw h 4 9) (fun _ => False) := nw_keep
  have cw := kw.2 c hcz
  have ccw := cw.2.2 (fun z => z)
  have kc0 : hk (nw h 4 9) c = 6 := cw.1.trans hc
  rw [ccw.2.1, ccw.1, t1, t8, Y.2.1]
  refine ⟨by omega, by omega, kc0, kc0, kc0, by omega, C_tei (by omega) (by omega) (by omega) t2 t4 t5 t7 (fun g kg zg ug kr p0 p3 p8 I C => ?_)⟩
  have cg := kg.2 c hcz
  have ccg := cg.2.2 (fun z => z)
  have ner : hsz h ≠ c := by omega
  have nea : hsz h + 1 ≠ c := by omega
  have kcg : hk g c = 6 := cg.1.trans hc
  have nect : c ≠ tx := fun z => by rw [z, t4] at hc; cases hc
  have tg := kg.2 tx t2
  have ctg := tg.2.2 (fun z => z)
  have off : ∀ x, x ≠ c → hI (sI g c 5 0) x = hI g x := fun x hx => up2_off _ hx
  have I1 : RI (sI g c 5 0) (hsz h) n nf 0 true 0 0 := I.same (off _ ner)
  have z0 : hsz (sI h c 5 0) = hsz h := rfl
  have u0 : hsu (sI h c 5 0) = hsu h := rfl
  have k0 : hk (sI h c 5 0) c = 6 := hc
  have e5 : hI (sI h c 5 0) c 5 = 0 := hI_at
  have ek : ∀ k, k ≠ 5 → hI (sI h c 5 0) c k = hI h c k := fun k hk => hI_ne (by omega)
  have ep : hP (sI h c 5 0) c = hP h c := rfl
  have kk0 : Keep h (sI h c 5 0) (fun x => x = c) := sI_kp ⟨Nat.le_refl _, fun a _ => ⟨rfl, rfl, fun _ => ⟨rfl, rfl, rfl⟩⟩⟩ (Or.inr rfl)
  have kg0 : Keep (sI h c 5 0) (sI g c 5 0) (fun _ => False) := sI_kp2 kg
  have J1 : PJ (sI h c 5 0) (sI g c 5 0) (fun _ => False) tx (K 23) n (hsz h) (hsz h + 1) 0 [] [] [] [] := by
    refine ⟨kg0, ⟨Nat.le_refl _, by show hsz h ≤ _; omega, fun x hx => (by cases hx), List.nodup_nil⟩, ⟨by show hsz h < hsz g; omega, kr, p0, p3, p8⟩, C, trivial, ⟨by show tx < hsz g; omega, tg.1.trans t4, tg.2.1.trans t5, fun k hk => ?_⟩, ⟨by show hsz g ≤ hsz h + _; omega, by show hsu g ≤ hsu h + _; omega⟩⟩
    rw [off tx nect.symm, ctg.1]; exact (t10 k hk).1
  have kr1 : hk (sI g c 5 0) (hsz h) = 4 := kr
  refine ⟨kcg, ?_⟩
  generalize sI g c 5 0 = g1 at I1 J1 kr1 kg0
  generalize sI h c 5 0 = h0 at kk0 kg0 z0 u0 k0 e5 ek ep J1
  obtain ⟨f, hf⟩ := hr
  have ht : ∀ k, k < n → ix (K 23 k) 256 := fun k hk => (t10 k hk).2
  have cz0 : c < hsz h0 := by omega
  -- the reader leaves the class's object alone
  have key : ∀ {g' : AHp} {q : Nat} {cs ws : List Nat} {out W : List SP}, PJ h0 g' (fun _ => False) tx (K 23) n (hsz h) (hsz h + 1) q cs ws out W → q ≤ 60 → Keep h g' (fun x => x = c) ∧ hk g' c = 6 ∧ hsz g' ≤ hsz h + 70 ∧ hsu g' ≤ hsu h + 400 ∧ (∀ k, k ≠ 5 → hI g' c k = hI h c k) ∧ hI g' c 5 = 0 ∧ hP g' c = hP h c := by
    intro g' q cs ws out W J hq
    have cc := J.1.2 c cz0
    have ccc := cc.2.2 (fun z => z)
    have jz := J.2.2.2.2.2.2
    exact ⟨kk0.trans (J.1.mono (fun x z => z.elim)), cc.1.trans k0, by omega, by omega, fun k hk => by rw [ccc.1]; exact ek k hk, by rw [ccc.1]; exact e5, by rw [ccc.2.1]; exact ep⟩
  refine ⟨all1.mpr kr1, by omega, B_Te_readAll_0 ?_⟩
  have base := C_all2 (lim := lim) (d := d - 1) (R := fun v4 h3 => onI v4 fun x5 => if x5 = (0 : Int32) then (hk h3 (hsz h) = 4 ∧ ([] : List AV) = [] ∧ R (some (vi ((-100 : Int32) - hI h3 (hsz h) 4))) h3) else (hk h3 (hsz h) = 4 ∧ (∀ q ∈ [((0 : Int), (6 : Nat))], hk h3 c = q.2) ∧ 0 < d ∧ WM lim (d - 1) j_It_addFilter [vr (some c), vr (hP h3 (hsz h) 3)] h3 (fun v7 h6 => onI v7 fun x8 => ([] : List AV) = [] ∧ R (some (vi x8)) h6) (X))) (X := X) (h0 := h0) (A := fun _ => False) (tx := tx) (t8 := K 23) (n := n) (r := hsz h) (a := hsz h + 1) (nf := nf) (res := res) (by omega) t7 (by omega) (by omega) (by omega) ht (fun g' L p' q cs ws W e hq J => onI_1 ?_) (fun g' p' e B => onI_0 ?_) f 0 0 true 0 0 [] [] g1 none hf ⟨[], [], ⟨[], [], J1, I1⟩, Rl3.tt⟩ (Nat.le_refl _) (by omega) (by omega) (Nat.le_refl _)
  · exact base
  · obtain ⟨a1, a2, a3, a4, a5, a6, a7⟩ := key J hq
    rw [J.2.2.1.2.2.2.1]
    refine ⟨J.kr, all1.mpr a2, by omega, C_addF hc hcz Y hn8 (by omega) a1 a5 a7 (by omega) J.2.2.2.1 (Rs_wf h8 t7 ⟨f, by rw [← e]; exact hf⟩) a3 a4 (fun g'' P e5 => onI_v ⟨rfl, q3 hn8 g'' L p' e P (e5.trans a6)⟩)⟩
  · obtain ⟨⟨q, cs, ws, out, W, J, hq⟩, e4⟩ := B
    obtain ⟨a1, a2, a3, a4, a5, a6, a7⟩ := key J hq
    rw [e4]
    exact ⟨J.kr, rfl, q2 hn8 g' p' e a1 a3 a4 a5 a6 a7⟩
end PRSC
