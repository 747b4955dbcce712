/-! ===== the class's add, as a whole ===== -/
theorem hk_sI {h : AHp} {a k : Nat} {v : Int32} : hk (sI h a k v) = hk h := rfl
section ADDD
variable {g0 g : AHp} {t b : Nat} {na : Nat → Nat} {D : Nat → Prop} {K : MT} {lim : Nat × Nat} {d : Nat} {R : RT} {X : XT} {T : Tr} {N : Nat} {W : Int}
theorem add_fin {gn : AHp} {tz : Nat} {v : Int32} (hd : 5 < d) (kt : hk gn t = 5) (ar : WM lim (d - 1) j_Tr_hang [vr (some t), vr (some tz)] (sI (sI (sI gn t 4 (hI gn t 4 + 1)) t 5 (hI (sI gn t 4 (hI gn t 4 + 1)) t 5 + 1)) t 6 (hI (sI (sI gn t 4 (hI gn t 4 + 1)) t 5 (hI (sI gn t 4 (hI gn t 4 + 1)) t 5 + 1)) t 6 + 1)) (fun _ h6 => (∀ q ∈ [((0 : Int), (5 : Nat))], hk h6 t = q.2) ∧ 0 < d ∧ WM lim (d - 1) j_Tr_balance [vr (some t), vr (some tz)] h6 (fun _ h7 => ([] : List AV) = [] ∧ R (some (vi v)) h7) X) X) :
    hk gn t = 5 ∧ hk gn t = 5 ∧ hk (sI gn t 4 (hI gn t 4 + (1 : Int32))) t = 5 ∧ hk (sI gn t 4 (hI gn t 4 + (1 : Int32))) t = 5 ∧ (let h5 : AHp := sI (sI gn t 4 (hI gn t 4 + (1 : Int32))) t 5 (hI (sI gn t 4 (hI gn t 4 + (1 : Int32))) t 5 + (1 : Int32)); hk h5 t = 5 ∧ hk h5 t = 5 ∧ (∀ q ∈ [((0 : Int), (5 : Nat))], hk (sI h5 t 6 (hI h5 t 6 + (1 : Int32))) t = q.2) ∧ 0 < d ∧ WM lim (d - 1) j_Tr_hang [vr (some t), vr (some tz)] (sI h5 t 6 (hI h5 t 6 + (1 : Int32))) (fun _ h6 => (∀ q ∈ [((0 : Int), (5 : Nat))], hk h6 t = q.2) ∧ 0 < d ∧ WM lim (d - 1) j_Tr_balance [vr (some t), vr (some tz)] h6 (fun _ h7 => ([] : List AV) = [] ∧ R (some (vi v)) h7) (X)) (X)) :=
  ⟨kt, kt, by rw [hk_sI]; exact kt, by rw [hk_sI]; exact kt, by rw [hk_sI, hk_sI]; exact kt, by rw [hk_sI, hk_sI]; exact kt, all1.mpr (by rw [hk_sI, hk_sI, hk_sI]; exact kt), by omega, ar⟩
theorem C_add {l h w : Int32} (V : CV g0 g t b na (· ∈ ino T) K) (I : TI K T N W) (C : CH K (ino T)) (hN5 : N < 500) (hd : 5 < d) (r1 : hsz g + 1 ≤ lim.1) (r2 : hsu g + 12 ≤ lim.2)
    (q : ∀ gn g' K', NewN g gn b N → CV gn g' t b (up1 na N (hsz g)) (· ∈ inL K T N l h w) K' → eqG K' (insM K T N l h w) → K' 43 2 = K 43 2 + 1 → CH K' (inL K T N l h w) → R (some (vi (nI N))) g') : WM lim d j_Tr_add [vr (some t), vi l, vi h, vi w] g R X := by
  have hN := I.1
  have hNT : N ∉ ino T := (I.in1 l h w).2.1
  have htb : t ≠ b := fun c => by have h1 := V.1.1; rw [c, V.1.2.2.2.1] at h1; cases h1
  have htz : t ≠ hsz g := by have := V.1.2.1; omega
  have hbz : b ≠ hsz g := by have := V.1.2.2.2.2.2; omega
  refine B_Tr_add_0 ⟨V.kt, ?_⟩
  rw [V.ins, hN, if_neg (by rw [← nI_0]; exact nI_nlt (Nat.zero_le _) (by omega))]
  refine ⟨V.kt, ?_⟩
  rw [V.1.2.2.1, onR_s, V.1.2.2.2.1, V.1.2.2.2.2.1]
  refine ⟨by omega, ?_⟩
  rw [if_pos (nI_lt hN5 (by omega))]
  refine ⟨r1, r2, by omega, C_init ?_⟩
  have hX := newH_ok (g := g) (x := nI N) (l := l) (h := h) (w := w)
  generalize newH g (nI N) l h w = Y at hX ⊢
  have ot := hX.2.2.1 t htz
  have ob := hX.2.2.1 b hbz
  refine ⟨ot.1.trans V.kt, ?_⟩
  rw [ot.2.2.2.1, V.1.2.2.1, onR_s]
  refine ⟨ob.1.trans V.1.2.2.2.1, ?_, fun b' hb' => ?_, ?_⟩
  · rw [show hLen Y b = 500 from ob.2.1.trans V.1.2.2.2.2.1]; exact ix_nI hN5 (by decide)
  · cases hb'; exact hX.2.2.2.1
  rw [nI_clamp (by omega)]
  have NN : NewN g (sP Y b N (some (hsz g))) b N := new_NN V.1.2.2.2.2.2 hX
  have V1 := new_V1 hX V I hN5
  have kt1 := V1.kt
  have ar := add_rest (R := R) (X := X) (lim := lim) I C hN5 hd NN V1 (fun g' K' a b c e => q _ g' K' NN a b c e)
  exact add_fin hd kt1 ar
end ADDD
