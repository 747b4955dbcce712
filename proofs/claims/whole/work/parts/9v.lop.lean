/-! ===== the law's loop ===== -/
theorem LI.pass {H : AHp} {c m o sc L : Nat} {xs : Nat → Int32} {zz kk : Nat} (q : LI H c m o sc L xs zz kk) : LI H c m o sc L xs zz (kk + 1) := by
  obtain ⟨t, b, na, K, T, N, W, F, FL, NB, fa, nf, Cs, cu, tx, n, P⟩ := q
  exact ⟨t, b, na, _, T, N, W, F, FL, NB, fa, nf, Cs, cu, tx, n, P.query ⟨Nat.le_refl _, fun x hx => ⟨rfl, rfl, fun _ => ⟨rfl, rfl, rfl⟩⟩⟩ P.2.2.1 Sc.refl (by omega) (by omega)⟩
section LOOP
variable {lim : Nat × Nat} {d c m o sc L : Nat} {xs : Nat → Int32} {zz : Nat} {R : RT} {X : XT}
theorem nI_p (a : Nat) (i : Nat) : nI a + nI i = nI (a + i) := nI_ad
set_option maxRecDepth 100000 in
theorem law_go (hd : 400 < d) {kk : Nat} {H : AHp} {l5_ l6_ : Option AV} (hk : 4 * kk + 4 ≤ L) (hL : L ≤ 2048) (hlim : zz + 60000 ≤ lim.1 ∧ 1100000 ≤ lim.2) (q : LI H c m o sc L xs zz kk) (nx : Nxt lim d c m o sc L xs zz (kk + 1) (nI (4 * kk)) R X) : WP lim d j_La_law 23 [some (vr (some sc)), some (vr (some c)), some (vr (some m)), some (vr (some o)), some (vi (nI (4 * kk))), l5_, l6_] [] H R X := by
  have s := q.sh
  have hx0 : ix (nI (4 * kk)) L := ix_nI (by omega) (by omega)
  have hx1 : ix (nI (4 * kk) + (1 : Int32)) L := by rw [show (1 : Int32) = nI 1 from rfl, nI_p]; exact ix_nI (by omega) (by omega)
  have hx2 : ix (nI (4 * kk) + (2 : Int32)) L := by rw [show (2 : Int32) = nI 2 from rfl, nI_p]; exact ix_nI (by omega) (by omega)
  have hx3 : ix (nI (4 * kk) + (3 : Int32)) L := by rw [show (3 : Int32) = nI 3 from rfl, nI_p]; exact ix_nI (by omega) (by omega)
  have hr : Rm lim zz kk := ⟨hlim, by omega⟩
  have df := nx H l5_ l6_ q.pass
  obtain ⟨t, b, na, K, T, N, W, F, FL, NB, fa, nf, Cs, cu, tx, n, P⟩ := q
  refine B_La_law_23 (onR_i ⟨by rw [s.2.1.2.1]; decide, ?_⟩)
  have t4 : (4 : Int32).toInt = 4 := rfl
  have ng : ¬ (nI (hLen H sc) - (4 : Int32)) < nI (4 * kk) := by
    rw [s.2.1.2.2.1, i_lt, i_sub (by rw [nI_toInt (by omega), t4]; omega) (by rw [nI_toInt (by omega), t4]; omega), nI_toInt (by omega), nI_toInt (by omega), t4]
    omega
  rw [if_neg ng]
  refine onR_i ⟨s.2.1.2.1, by rw [s.2.1.2.2.1]; exact hx0, ?_⟩
  exact ite_i (fun _ => Lc_insert P hr hd hx1 hx2 hx3 nx) (fun _ => ite_i (fun _ => Lc_remove P hr hd hx1 hx2 hx3 nx) (fun _ => ite_i (fun _ => Lc_restore P hr hd hx1 hx2 hx3 nx) (fun _ => ite_i (fun _ => Lc_rebuild P hr hd hx1 hx2 hx3 nx) (fun _ => ite_i (fun _ => Lc_setRebuildPercentage P hr hd hx1 hx2 hx3 nx) (fun _ => ite_i (fun _ => Lc_addWeight P hr hd hx1 hx2 hx3 nx) (fun _ => ite_i (fun _ => Lc_size P hr hd hx1 hx2 hx3 nx) (fun _ => ite_i (fun _ => Lc_nodeCount P hr hd hx1 hx2 hx3 nx) (fun _ => ite_i (fun _ => Lc_height P hr hd hx1 hx2 hx3 nx) (fun _ => ite_i (fun _ => Lc_rebuildCount P hr hd hx1 hx2 hx3 nx) (fun _ => ite_i (fun _ => Lc_rebuiltNodes P hr hd hx1 hx2 hx3 nx) (fun _ => ite_i (fun _ => Lc_state P hr hd hx1 hx2 hx3 nx) (fun _ => ite_i (fun _ => Lc_low P hr hd hx1 hx2 hx3 nx) (fun _ => ite_i (fun _ => Lc_high P hr hd hx1 hx2 hx3 nx) (fun _ => ite_i (fun _ => Lc_weight P hr hd hx1 hx2 hx3 nx) (fun _ => ite_i (fun _ => Lc_parent P hr hd hx1 hx2 hx3 nx) (fun _ => ite_i (fun _ => Lc_child P hr hd hx1 hx2 hx3 nx) (fun _ => ite_i (fun _ => Lc_isRed P hr hd hx1 hx2 hx3 nx) (fun _ => ite_i (fun _ => Lc_subtreeSize P hr hd hx1 hx2 hx3 nx) (fun _ => ite_i (fun _ => Lc_subtreeHigh P hr hd hx1 hx2 hx3 nx) (fun _ => ite_i (fun _ => Lc_subtreeWeight P hr hd hx1 hx2 hx3 nx) (fun _ => ite_i (fun _ => Lc_digest P hr hd hx1 hx2 hx3 nx) (fun _ => ite_i (fun _ => Lc_stabCount P hr hd hx1 hx2 hx3 nx) (fun _ => ite_i (fun _ => Lc_stabWeight P hr hd hx1 hx2 hx3 nx) (fun _ => ite_i (fun _ => Lc_heaviest P hr hd hx1 hx2 hx3 nx) (fun _ => ite_i (fun _ => Lc_heaviestOverlap P hr hd hx1 hx2 hx3 nx) (fun _ => ite_i (fun _ => Lc_firstOverlap P hr hd hx1 hx2 hx3 nx) (fun _ => ite_i (fun _ => Lc_floor P hr hd hx1 hx2 hx3 nx) (fun _ => ite_i (fun _ => Lc_ceiling P hr hd hx1 hx2 hx3 nx) (fun _ => ite_i (fun _ => Lc_rank P hr hd hx1 hx2 hx3 nx) (fun _ => ite_i (fun _ => Lc_select P hr hd hx1 hx2 hx3 nx) (fun _ => ite_i (fun _ => Lc_nearest P hr hd hx1 hx2 hx3 nx) (fun _ => ite_i (fun _ => Lc_covered P hr hd hx1 hx2 hx3 nx) (fun _ => ite_i (fun _ => Lc_deepestPoint P hr hd hx1 hx2 hx3 nx) (fun _ => ite_i (fun _ => Lc_overlapCount P hr hd hx1 hx2 hx3 nx) (fun _ => ite_i (fun _ => Lc_scheduleWeight P hr hd hx1 hx2 hx3 nx) (fun _ => ite_i (fun _ => Lc_scheduled P hr hd hx1 hx2 hx3 nx) (fun _ => ite_i (fun _ => Lc_piercingPoint P hr hd hx1 hx2 hx3 nx) (fun _ => ite_i (fun _ => Lc_addRangeFilter P hr hd hx1 hx2 hx3 nx) (fun _ => ite_i (fun _ => Lc_addHeavierFilter P hr hd hx1 hx2 hx3 nx) (fun _ => ite_i (fun _ => Lc_addCombinedFilter P hr hd hx1 hx2 hx3 nx) (fun _ => ite_i (fun _ => Lc_feed P hr hd hx1 hx2 hx3 nx) (fun _ => ite_i (fun _ => Lc_parseFilter P hr hd hx1 hx2 hx3 nx) (fun _ => ite_i (fun _ => Lc_matchCount P hr hd hx1 hx2 hx3 nx) (fun _ => ite_i (fun _ => Lc_accepts P hr hd hx1 hx2 hx3 nx) (fun _ => ite_i (fun _ => Lc_open P hr hd hx1 hx2 hx3 nx) (fun _ => ite_i (fun _ => Lc_hasNext P hr hd hx1 hx2 hx3 nx) (fun _ => ite_i (fun _ => Lc_next P hr hd hx1 hx2 hx3 nx) (fun _ => ite_i (fun _ => Lc_removeCurrent P hr hd hx1 hx2 hx3 nx) (fun _ => ite_i (fun _ => Lc_save P hr hd hx1 hx2 hx3 nx) (fun _ => ite_i (fun _ => Lc_load P hr hd hx1 hx2 hx3 nx) (fun _ => df)))))))))))))))))))))))))))))))))))))))))))))))))))
theorem law_loop (hd : 400 < d) (hL : L ≤ 2048) (hlim : zz + 60000 ≤ lim.1 ∧ 1100000 ≤ lim.2) (hR : ∀ H, R (some (vi 1)) H) : ∀ (n kk : Nat) (H : AHp) (l5_ l6_ : Option AV), L ≤ 4 * kk + n → 4 * kk ≤ 2052 → LI H c m o sc L xs zz kk → WP lim d j_La_law 23 [some (vr (some sc)), some (vr (some c)), some (vr (some m)), some (vr (some o)), some (vi (nI (4 * kk))), l5_, l6_] [] H R X := by
  have ex : ∀ (kk : Nat) (H : AHp) (l5_ l6_ : Option AV), L < 4 * kk + 4 → 4 * kk ≤ 2052 → LI H c m o sc L xs zz kk → WP lim d j_La_law 23 [some (vr (some sc)), some (vr (some c)), some (vr (some m)), some (vr (some o)), some (vi (nI (4 * kk))), l5_, l6_] [] H R X := by
    intro kk H l5_ l6_ h1 h2 q
    have s := q.sh
    have t4 : (4 : Int32).toInt = 4 := rfl
    refine B_La_law_23 (onR_i ⟨by rw [s.2.1.2.1]; decide, ?_⟩)
    have pg : (nI (hLen H sc) - (4 : Int32)) < nI (4 * kk) := by
      rw [s.2.1.2.2.1, i_lt, i_sub (by rw [nI_toInt (by omega), t4]; omega) (by rw [nI_toInt (by omega), t4]; omega), nI_toInt (by omega), nI_toInt (by omega), t4]
      omega
    rw [if_pos pg]
    exact ⟨rfl, Or.inr rfl, hR H⟩
  intro n
  induction n with
  | zero =>
    intro kk H l5_ l6_ h1 h2 q
    exact ex kk H l5_ l6_ (by omega) h2 q
  | succ n ih =>
    intro kk H l5_ l6_ h1 h2 q
    by_cases e : L < 4 * kk + 4
    · exact ex kk H l5_ l6_ e h2 q
    · refine law_go hd (by omega) hL hlim q (fun H' l5 l6 q' => B_La_law_2751 ?_)
      rw [show (4 : Int32) = nI 4 from rfl, nI_p, show 4 * kk + 4 = 4 * (kk + 1) by omega]
      exact ih (kk + 1) H' l5 l6 (by omega) (by omega) q'
end LOOP
