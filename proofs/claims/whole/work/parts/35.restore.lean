section REST
variable {z : Nat × Nat} {d : Nat} {M : MT} {Q : Option AV → MT → Prop} {N : Nat} {x y w : Int32}
/-- what restore leaves -/
abbrev mRest (M : MT) (b : Nat) : MT := up2 (up2 (thn M 0) 4 b 0) 0 12 (M 0 12 - 1)
theorem S_restore (hN : M 0 10 = nI N) (hN5 : N ≤ 500) (hd : 1 < d) (q0 : ¬ ix x N → Q (some (vi 0)) (thn M 1)) (q1 : ∀ b, b < N → x = nI b → M 4 b = 1 → Q (some (vi (M 0 11 - (M 0 12 - 1)))) (mRest M b)) (q2 : ∀ b, b < N → x = nI b → ¬ M 4 b = 1 → Q (some (vi 0)) (thn M 2)) : WQ z d j_Mo_restore [vr (some 0), vi x] M Q := by
  refine M_restore_0 ⟨by omega, S_isInserted (N := N) (by rw [up2_ne (by decide)]; exact hN) hN5 (by omega) ?_ ?_⟩
  · intro h
    obtain ⟨b, hb, rfl⟩ := ix_ex h (by omega)
    have cl := nI_clamp (n := b) (by omega)
    rw [cl]
    refine onI_1 ⟨ix_mono h hN5, ?_⟩
    rw [up2_ne (by omega)]
    split
    · rename_i c
      refine ⟨ix_mono h hN5, fun M5 e => ⟨by omega, M_live_0 ?_⟩⟩
      have e : M5 = mRest M b := by
        rw [e]
        show up2 (up2 (thn M 0) 4 b 0) 0 12 (up2 (thn M 0) 4 b 0 0 12 - 1) = _
        rw [up2_ne (by omega), thn_f (by decide)]
      rw [e]
      show Q (some (vi (mRest M b 0 11 - mRest M b 0 12))) (mRest M b)
      rw [show mRest M b 0 11 = M 0 11 from (up2_ne (by decide)).trans ((up2_ne (by omega)).trans (thn_f (by decide))), show mRest M b 0 12 = M 0 12 - 1 from up2_at]
      exact q1 b hb rfl c
    · rename_i c
      exact S_fails' (by omega) (q2 b hb rfl c)
  · intro h; exact onI_0 (S_fails' (by omega) (q0 h))
end REST
