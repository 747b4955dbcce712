/-! ===== the law's cases ===== -/
theorem onR_i {a : Nat} {f : Nat → Prop} (h : f a) : onR (some a) f := h
theorem ite_i {c : Prop} [Decidable c] {A B : Prop} (h1 : c → A) (h2 : ¬ c → B) : if c then A else B := by
  by_cases h : c
  · rw [if_pos h]; exact h1 h
  · rw [if_neg h]; exact h2 h
theorem lg_self {v : Int64} : lg_cmp v v = 0 := by
  unfold lg_cmp
  simp
theorem XCo.monoN {P Q : Int32 → Prop} (h : ∀ k, k ≠ 0 → P k → Q k) : ∀ {l : List (Nat × Int32)} {n : Nat}, (∀ p ∈ l, p.2 ≠ 0) → XCo l P n → XCo l Q n
  | [], _, _, q => q
  | [p], _, hn, q => ⟨q.1, h _ (hn p List.mem_cons_self) q.2⟩
  | p :: r :: l, _, hn, q => q.elim (fun q => Or.inl ⟨q.1, h _ (hn p List.mem_cons_self) q.2⟩) (fun q => Or.inr (XCo.monoN h (fun p hp => hn p (List.mem_cons_of_mem _ hp)) q))
def TlI (lim : Nat × Nat) (d c m o sc : Nat) (x4_ : Int32) (R : RT) (X : XT) (kx : Int32) : RT := fun v8 h7 => onI v8 fun x9 => onR (some m) fun a10 => (∀ q ∈ [((0 : Int), (7 : Nat))], hk h7 a10 = q.2) ∧ 0 < d ∧ WM lim (d - 1) j_Mo_thrown [vr (some a10)] h7 (fun v12 h11 => onI v12 fun x13 => if x13 = kx then (if kx = (0 : Int32) then (onR (some o) fun a14 => hk h11 a14 = 13 ∧ ix (0 : Int32) (hLen h11 a14) ∧ if (lg_cmp (hJ h11 a14 (0 : Int32).toNatClampNeg) ((x9).toInt64)) = (0 : Int32) then (WP lim d j_La_law 2751 [some (vr (some sc)), some (vr (some c)), some (vr (some m)), some (vr (some o)), some (vi x4_), some (vi kx), some (vi x9)] [] h11 R X) else (([] : List AV) = [] ∧ b01 (0 : Int32) ∧ R (some (vi (0 : Int32))) h11)) else (WP lim d j_La_law 2751 [some (vr (some sc)), some (vr (some c)), some (vr (some m)), some (vr (some o)), some (vi x4_), some (vi kx), some (vi x9)] [] h11 R X)) else (([] : List AV) = [] ∧ b01 (0 : Int32) ∧ R (some (vi (0 : Int32))) h11)) (X)
def TlB (lim : Nat × Nat) (d c m o sc : Nat) (x4_ : Int32) (R : RT) (X : XT) (kx : Int32) : RT := fun v8 h7 => onI v8 fun x9 => onR (some m) fun a10 => (∀ q ∈ [((0 : Int), (7 : Nat))], hk h7 a10 = q.2) ∧ 0 < d ∧ WM lim (d - 1) j_Mo_thrown [vr (some a10)] h7 (fun v12 h11 => onI v12 fun x13 => if x13 = kx then (if kx = (0 : Int32) then (onR (some o) fun a14 => hk h11 a14 = 13 ∧ ix (0 : Int32) (hLen h11 a14) ∧ if x9 = (0 : Int32) then (if (lg_cmp (hJ h11 a14 (0 : Int32).toNatClampNeg) (0 : Int64)) = (0 : Int32) then (WP lim d j_La_law 2751 [some (vr (some sc)), some (vr (some c)), some (vr (some m)), some (vr (some o)), some (vi x4_), some (vi kx), some (vi x9)] [] h11 R X) else (([] : List AV) = [] ∧ b01 (0 : Int32) ∧ R (some (vi (0 : Int32))) h11)) else (if (lg_cmp (hJ h11 a14 (0 : Int32).toNatClampNeg) (1 : Int64)) = (0 : Int32) then (WP lim d j_La_law 2751 [some (vr (some sc)), some (vr (some c)), some (vr (some m)), some (vr (some o)), some (vi x4_), some (vi kx), some (vi x9)] [] h11 R X) else (([] : List AV) = [] ∧ b01 (0 : Int32) ∧ R (some (vi (0 : Int32))) h11))) else (WP lim d j_La_law 2751 [some (vr (some sc)), some (vr (some c)), some (vr (some m)), some (vr (some o)), some (vi x4_), some (vi kx), some (vi x9)] [] h11 R X)) else (([] : List AV) = [] ∧ b01 (0 : Int32) ∧ R (some (vi (0 : Int32))) h11)) (X)
def TlZ (lim : Nat × Nat) (d c m o sc : Nat) (x4_ : Int32) (l5_ l6_ : Option AV) (R : RT) (X : XT) (x5 : Int32) : RT := fun v9 h8 => onI v9 fun x10 => if x5 = x10 then (WP lim d j_La_law 2751 [some (vr (some sc)), some (vr (some c)), some (vr (some m)), some (vr (some o)), some (vi x4_), l5_, l6_] [] h8 R X) else (([] : List AV) = [] ∧ b01 (0 : Int32) ∧ R (some (vi (0 : Int32))) h8)
/-- the way on -/
def Nxt (lim : Nat × Nat) (d c m o sc L : Nat) (xs : Nat → Int32) (zz kk : Nat) (x4_ : Int32) (R : RT) (X : XT) : Prop := ∀ (H' : AHp) (l5 l6 : Option AV), LI H' c m o sc L xs zz kk → WP lim d j_La_law 2751 [some (vr (some sc)), some (vr (some c)), some (vr (some m)), some (vr (some o)), some (vi x4_), l5, l6] [] H' R X
section CASES
variable {h H' : AHp} {lim : Nat × Nat} {d c m o sc L : Nat} {xs : Nat → Int32} {zz kk : Nat} {x4_ y k : Int32} {R : RT} {X : XT} {jL jI jM : Nat} {cod : List (Nat × Int32)} {l5_ l6_ : Option AV}
theorem LI.sh (q : LI H' c m o sc L xs zz kk) : Shs H' c m o sc L xs := by
  obtain ⟨t, b, na, K, T, N, W, F, FL, NB, fa, nf, Cs, cu, tx, n, P⟩ := q
  exact P.sh
theorem ix0 {H : AHp} (q : OuA H o) : ix (0 : Int32) (hLen H o) := by rw [q.2.2]; unfold ix; decide
theorem tl_N (nx : Nxt lim d c m o sc L xs zz kk x4_ R X) (hd : 1 < d) (q : LI H' c m o sc L xs zz kk) (e0 : hI H' m 0 = 0) (eJ : hJ H' o 0 = y.toInt64) : TlI lim d c m o sc x4_ R X 0 (some (vi y)) H' := by
  have s := q.sh
  refine onI_v (onR_i ⟨all1.mpr s.2.2.2, by omega, B_Mo_thrown_0 ⟨s.2.2.2, rfl, onI_v ?_⟩⟩)
  have e : hJ H' o (0 : Int32).toNatClampNeg = y.toInt64 := eJ
  rw [e0, if_pos rfl, if_pos rfl]
  refine onR_i ⟨s.2.2.1.2.1, ix0 s.2.2.1, ?_⟩
  rw [e, lg_self, if_pos rfl]
  exact nx H' _ _ q
theorem tl_X (nx : Nxt lim d c m o sc L xs zz kk x4_ R X) (hd : 1 < d) (q : LI H' c m o sc L xs zz kk) (e0 : hI H' m 0 = k) (hk0 : k ≠ 0) : TlI lim d c m o sc x4_ R X k (some (vi y)) H' := by
  have s := q.sh
  refine onI_v (onR_i ⟨all1.mpr s.2.2.2, by omega, B_Mo_thrown_0 ⟨s.2.2.2, rfl, onI_v ?_⟩⟩)
  rw [e0, if_pos rfl, if_neg hk0]
  exact nx H' _ _ q
theorem tb_N (nx : Nxt lim d c m o sc L xs zz kk x4_ R X) (hd : 1 < d) (q : LI H' c m o sc L xs zz kk) (e0 : hI H' m 0 = 0) (eJ : hJ H' o 0 = if y = 0 then 0 else 1) : TlB lim d c m o sc x4_ R X 0 (some (vi y)) H' := by
  have s := q.sh
  refine onI_v (onR_i ⟨all1.mpr s.2.2.2, by omega, B_Mo_thrown_0 ⟨s.2.2.2, rfl, onI_v ?_⟩⟩)
  have e : hJ H' o (0 : Int32).toNatClampNeg = if y = 0 then 0 else 1 := eJ
  rw [e0, if_pos rfl, if_pos rfl]
  refine onR_i ⟨s.2.2.1.2.1, ix0 s.2.2.1, ?_⟩
  rw [e]
  by_cases c0 : y = 0
  · rw [if_pos c0, if_pos c0, lg_self, if_pos rfl]
    exact nx H' _ _ q
  · rw [if_neg c0, if_neg c0, lg_self, if_pos rfl]
    exact nx H' _ _ q
theorem tb_X (nx : Nxt lim d c m o sc L xs zz kk x4_ R X) (hd : 1 < d) (q : LI H' c m o sc L xs zz kk) (e0 : hI H' m 0 = k) (hk0 : k ≠ 0) : TlB lim d c m o sc x4_ R X k (some (vi y)) H' := by
  have s := q.sh
  refine onI_v (onR_i ⟨all1.mpr s.2.2.2, by omega, B_Mo_thrown_0 ⟨s.2.2.2, rfl, onI_v ?_⟩⟩)
  rw [e0, if_pos rfl, if_neg hk0]
  exact nx H' _ _ q
theorem sJ_I {h1 : AHp} {v : Int64} (s : Shs h1 c m o sc L xs) : hI (sJ h1 o 0 v) sc = xs := funext s.2.1.2.2.2
theorem sh_I {h1 : AHp} (s : Shs h1 c m o sc L xs) : hI h1 sc = xs := funext s.2.1.2.2.2
theorem caseI0 (S : Shs h c m o sc L xs)  (nx : Nxt lim d c m o sc L xs zz kk x4_ R X) (hd : 2 < d) (tw : Two lim (d - 1 - 1) (d - 1) c m o sc L xs zz kk h jI jM [] cod) (hn : ∀ p ∈ cod, p.2 ≠ 0) (wr : ∀ R' : RT, (hk h c = 6 ∧ 0 < d - 1 ∧ WM lim (d - 1 - 1) jI [vr (some c)] h (fun v h1 => onI v fun y => hk h1 o = 13 ∧ ix 0 (hLen h1 o) ∧ R' (some (vi 0)) (sJ h1 o 0 y.toInt64)) (fun n h' => XCo cod (fun k => R' (some (vi k)) h') n)) → WM lim (d - 1) jL [vr (some c), vr (some o)] h R' X) : 0 < d ∧ WM lim (d - 1) jL [vr (some c), vr (some o)] h (fun v3 h2 => onI v3 fun x3 => onR (some m) fun a6 => (∀ q ∈ [((0 : Int), (7 : Nat))], hk h2 a6 = q.2) ∧ 0 < d ∧ WM lim (d - 1) jM [vr (some a6)] h2 (TlI lim d c m o sc x4_ R X x3) X) X := by
  refine ⟨by omega, wr _ ⟨S.1, by omega, ?_⟩⟩
  refine tw _ _ (fun y h1 a s => onI_v ⟨s.2.2.1.2.1, ix0 s.2.2.1, onI_v (onR_i ⟨all1.mpr s.2.2.2, by omega, ?_⟩)⟩) (fun n h1 q => XCo.monoN (fun k hk0 a => onI_v ?_) hn q)
  · exact a _ _ _ (fun H' q e0 eJ => tl_N nx (by omega) q e0 eJ)
  · obtain ⟨a, s⟩ := a
    refine onR_i ⟨all1.mpr s.2.2.2, by omega, ?_⟩
    exact a _ _ (fun y H' q e0 => tl_X nx (by omega) q e0 hk0)
theorem caseI1 (S : Shs h c m o sc L xs) (hx1 : ix (x4_ + (1 : Int32)) L) (nx : Nxt lim d c m o sc L xs zz kk x4_ R X) (hd : 2 < d) (tw : Two lim (d - 1 - 1) (d - 1) c m o sc L xs zz kk h jI jM [vi (xs (x4_ + (1 : Int32)).toNatClampNeg)] cod) (hn : ∀ p ∈ cod, p.2 ≠ 0) (wr : ∀ R' : RT, (hk h c = 6 ∧ 0 < d - 1 ∧ WM lim (d - 1 - 1) jI [vr (some c), vi (hI h sc (x4_ + (1 : Int32)).toNatClampNeg)] h (fun v h1 => onI v fun y => hk h1 o = 13 ∧ ix 0 (hLen h1 o) ∧ R' (some (vi 0)) (sJ h1 o 0 y.toInt64)) (fun n h' => XCo cod (fun k => R' (some (vi k)) h') n)) → WM lim (d - 1) jL [vr (some c), vi (hI h sc (x4_ + (1 : Int32)).toNatClampNeg), vr (some o)] h R' X) : onR (some sc) fun a1 => hk h a1 = 14 ∧ ix (x4_ + (1 : Int32)) (hLen h a1) ∧ 0 < d ∧ WM lim (d - 1) jL [vr (some c), vi (hI h a1 (x4_ + (1 : Int32)).toNatClampNeg), vr (some o)] h (fun v3 h2 => onI v3 fun x3 => onR (some sc) fun b1 => hk h2 b1 = 14 ∧ ix (x4_ + (1 : Int32)) (hLen h2 b1) ∧ onR (some m) fun a6 => (∀ q ∈ [((0 : Int), (7 : Nat))], hk h2 a6 = q.2) ∧ 0 < d ∧ WM lim (d - 1) jM [vr (some a6), vi (hI h2 b1 (x4_ + (1 : Int32)).toNatClampNeg)] h2 (TlI lim d c m o sc x4_ R X x3) X) X := by
  refine onR_i ⟨S.2.1.2.1, by rw [S.2.1.2.2.1]; exact hx1, by omega, wr _ ⟨S.1, by omega, ?_⟩⟩
  rw [sh_I S]
  refine tw _ _ (fun y h1 a s => onI_v ⟨s.2.2.1.2.1, ix0 s.2.2.1, onI_v (onR_i ⟨s.2.1.2.1, by rw [show hLen (sJ h1 o 0 _) sc = L from s.2.1.2.2.1]; exact hx1, onR_i ⟨all1.mpr s.2.2.2, by omega, ?_⟩⟩)⟩) (fun n h1 q => XCo.monoN (fun k hk0 a => onI_v ?_) hn q)
  · rw [sJ_I s]
    exact a _ _ _ (fun H' q e0 eJ => tl_N nx (by omega) q e0 eJ)
  · obtain ⟨a, s⟩ := a
    refine onR_i ⟨s.2.1.2.1, by rw [s.2.1.2.2.1]; exact hx1, onR_i ⟨all1.mpr s.2.2.2, by omega, ?_⟩⟩
    rw [sh_I s]
    exact a _ _ (fun y H' q e0 => tl_X nx (by omega) q e0 hk0)
theorem caseI2 (S : Shs h c m o sc L xs) (hx1 : ix (x4_ + (1 : Int32)) L) (hx2 : ix (x4_ + (2 : Int32)) L) (nx : Nxt lim d c m o sc L xs zz kk x4_ R X) (hd : 2 < d) (tw : Two lim (d - 1 - 1) (d - 1) c m o sc L xs zz kk h jI jM [vi (xs (x4_ + (1 : Int32)).toNatClampNeg), vi (xs (x4_ + (2 : Int32)).toNatClampNeg)] cod) (hn : ∀ p ∈ cod, p.2 ≠ 0) (wr : ∀ R' : RT, (hk h c = 6 ∧ 0 < d - 1 ∧ WM lim (d - 1 - 1) jI [vr (some c), vi (hI h sc (x4_ + (1 : Int32)).toNatClampNeg), vi (hI h sc (x4_ + (2 : Int32)).toNatClampNeg)] h (fun v h1 => onI v fun y => hk h1 o = 13 ∧ ix 0 (hLen h1 o) ∧ R' (some (vi 0)) (sJ h1 o 0 y.toInt64)) (fun n h' => XCo cod (fun k => R' (some (vi k)) h') n)) → WM lim (d - 1) jL [vr (some c), vi (hI h sc (x4_ + (1 : Int32)).toNatClampNeg), vi (hI h sc (x4_ + (2 : Int32)).toNatClampNeg), vr (some o)] h R' X) : onR (some sc) fun a1 => hk h a1 = 14 ∧ ix (x4_ + (1 : Int32)) (hLen h a1) ∧ onR (some sc) fun a2 => hk h a2 = 14 ∧ ix (x4_ + (2 : Int32)) (hLen h a2) ∧ 0 < d ∧ WM lim (d - 1) jL [vr (some c), vi (hI h a1 (x4_ + (1 : Int32)).toNatClampNeg), vi (hI h a2 (x4_ + (2 : Int32)).toNatClampNeg), vr (some o)] h (fun v3 h2 => onI v3 fun x3 => onR (some sc) fun b1 => hk h2 b1 = 14 ∧ ix (x4_ + (1 : Int32)) (hLen h2 b1) ∧ onR (some sc) fun b2 => hk h2 b2 = 14 ∧ ix (x4_ + (2 : Int32)) (hLen h2 b2) ∧ onR (some m) fun a6 => (∀ q ∈ [((0 : Int), (7 : Nat))], hk h2 a6 = q.2) ∧ 0 < d ∧ WM lim (d - 1) jM [vr (some a6), vi (hI h2 b1 (x4_ + (1 : Int32)).toNatClampNeg), vi (hI h2 b2 (x4_ + (2 : Int32)).toNatClampNeg)] h2 (TlI lim d c m o sc x4_ R X x3) X) X := by
  refine onR_i ⟨S.2.1.2.1, by rw [S.2.1.2.2.1]; exact hx1, onR_i ⟨S.2.1.2.1, by rw [S.2.1.2.2.1]; exact hx2, by omega, wr _ ⟨S.1, by omega, ?_⟩⟩⟩
  rw [sh_I S]
  refine tw _ _ (fun y h1 a s => onI_v ⟨s.2.2.1.2.1, ix0 s.2.2.1, onI_v (onR_i ⟨s.2.1.2.1, by rw [show hLen (sJ h1 o 0 _) sc = L from s.2.1.2.2.1]; exact hx1, onR_i ⟨s.2.1.2.1, by rw [show hLen (sJ h1 o 0 _) sc = L from s.2.1.2.2.1]; exact hx2, onR_i ⟨all1.mpr s.2.2.2, by omega, ?_⟩⟩⟩)⟩) (fun n h1 q => XCo.monoN (fun k hk0 a => onI_v ?_) hn q)
  · rw [sJ_I s]
    exact a _ _ _ (fun H' q e0 eJ => tl_N nx (by omega) q e0 eJ)
  · obtain ⟨a, s⟩ := a
    refine onR_i ⟨s.2.1.2.1, by rw [s.2.1.2.2.1]; exact hx1, onR_i ⟨s.2.1.2.1, by rw [s.2.1.2.2.1]; exact hx2, onR_i ⟨all1.mpr s.2.2.2, by omega, ?_⟩⟩⟩
    rw [sh_I s]
    exact a _ _ (fun y H' q e0 => tl_X nx (by omega) q e0 hk0)
theorem caseI3 (S : Shs h c m o sc L xs) (hx1 : ix (x4_ + (1 : Int32)) L) (hx2 : ix (x4_ + (2 : Int32)) L) (hx3 : ix (x4_ + (3 : Int32)) L) (nx : Nxt lim d c m o sc L xs zz kk x4_ R X) (hd : 2 < d) (tw : Two lim (d - 1 - 1) (d - 1) c m o sc L xs zz kk h jI jM [vi (xs (x4_ + (1 : Int32)).toNatClampNeg), vi (xs (x4_ + (2 : Int32)).toNatClampNeg), vi (xs (x4_ + (3 : Int32)).toNatClampNeg)] cod) (hn : ∀ p ∈ cod, p.2 ≠ 0) (wr : ∀ R' : RT, (hk h c = 6 ∧ 0 < d - 1 ∧ WM lim (d - 1 - 1) jI [vr (some c), vi (hI h sc (x4_ + (1 : Int32)).toNatClampNeg), vi (hI h sc (x4_ + (2 : Int32)).toNatClampNeg), vi (hI h sc (x4_ + (3 : Int32)).toNatClampNeg)] h (fun v h1 => onI v fun y => hk h1 o = 13 ∧ ix 0 (hLen h1 o) ∧ R' (some (vi 0)) (sJ h1 o 0 y.toInt64)) (fun n h' => XCo cod (fun k => R' (some (vi k)) h') n)) → WM lim (d - 1) jL [vr (some c), vi (hI h sc (x4_ + (1 : Int32)).toNatClampNeg), vi (hI h sc (x4_ + (2 : Int32)).toNatClampNeg), vi (hI h sc (x4_ + (3 : Int32)).toNatClampNeg), vr (some o)] h R' X) : onR (some sc) fun a1 => hk h a1 = 14 ∧ ix (x4_ + (1 : Int32)) (hLen h a1) ∧ onR (some sc) fun a2 => hk h a2 = 14 ∧ ix (x4_ + (2 : Int32)) (hLen h a2) ∧ onR (some sc) fun a3 => hk h a3 = 14 ∧ ix (x4_ + (3 : Int32)) (hLen h a3) ∧ 0 < d ∧ WM lim (d - 1) jL [vr (some c), vi (hI h a1 (x4_ + (1 : Int32)).toNatClampNeg), vi (hI h a2 (x4_ + (2 : Int32)).toNatClampNeg), vi (hI h a3 (x4_ + (3 : Int32)).toNatClampNeg), vr (some o)] h (fun v3 h2 => onI v3 fun x3 => onR (some sc) fun b1 => hk h2 b1 = 14 ∧ ix (x4_ + (1 : Int32)) (hLen h2 b1) ∧ onR (some sc) fun b2 => hk h2 b2 = 14 ∧ ix (x4_ + (2 : Int32)) (hLen h2 b2) ∧ onR (some sc) fun b3 => hk h2 b3 = 14 ∧ ix (x4_ + (3 : Int32)) (hLen h2 b3) ∧ onR (some m) fun a6 => (∀ q ∈ [((0 : Int), (7 : Nat))], hk h2 a6 = q.2) ∧ 0 < d ∧ WM lim (d - 1) jM [vr (some a6), vi (hI h2 b1 (x4_ + (1 : Int32)).toNatClampNeg), vi (hI h2 b2 (x4_ + (2 : Int32)).toNatClampNeg), vi (hI h2 b3 (x4_ + (3 : Int32)).toNatClampNeg)] h2 (TlI lim d c m o sc x4_ R X x3) X) X := by
  refine onR_i ⟨S.2.1.2.1, by rw [S.2.1.2.2.1]; exact hx1, onR_i ⟨S.2.1.2.1, by rw [S.2.1.2.2.1]; exact hx2, onR_i ⟨S.2.1.2.1, by rw [S.2.1.2.2.1]; exact hx3, by omega, wr _ ⟨S.1, by omega, ?_⟩⟩⟩⟩
  rw [sh_I S]
  refine tw _ _ (fun y h1 a s => onI_v ⟨s.2.2.1.2.1, ix0 s.2.2.1, onI_v (onR_i ⟨s.2.1.2.1, by rw [show hLen (sJ h1 o 0 _) sc = L from s.2.1.2.2.1]; exact hx1, onR_i ⟨s.2.1.2.1, by rw [show hLen (sJ h1 o 0 _) sc = L from s.2.1.2.2.1]; exact hx2, onR_i ⟨s.2.1.2.1, by rw [show hLen (sJ h1 o 0 _) sc = L from s.2.1.2.2.1]; exact hx3, onR_i ⟨all1.mpr s.2.2.2, by omega, ?_⟩⟩⟩⟩)⟩) (fun n h1 q => XCo.monoN (fun k hk0 a => onI_v ?_) hn q)
  · rw [sJ_I s]
    exact a _ _ _ (fun H' q e0 eJ => tl_N nx (by omega) q e0 eJ)
  · obtain ⟨a, s⟩ := a
    refine onR_i ⟨s.2.1.2.1, by rw [s.2.1.2.2.1]; exact hx1, onR_i ⟨s.2.1.2.1, by rw [s.2.1.2.2.1]; exact hx2, onR_i ⟨s.2.1.2.1, by rw [s.2.1.2.2.1]; exact hx3, onR_i ⟨all1.mpr s.2.2.2, by omega, ?_⟩⟩⟩⟩
    rw [sh_I s]
    exact a _ _ (fun y H' q e0 => tl_X nx (by omega) q e0 hk0)
theorem caseB1 (S : Shs h c m o sc L xs) (hx1 : ix (x4_ + (1 : Int32)) L) (nx : Nxt lim d c m o sc L xs zz kk x4_ R X) (hd : 2 < d) (tw : Two lim (d - 1 - 1) (d - 1) c m o sc L xs zz kk h jI jM [vi (xs (x4_ + (1 : Int32)).toNatClampNeg)] cod) (hn : ∀ p ∈ cod, p.2 ≠ 0) (wr : ∀ R' : RT, (hk h c = 6 ∧ 0 < d - 1 ∧ WM lim (d - 1 - 1) jI [vr (some c), vi (hI h sc (x4_ + (1 : Int32)).toNatClampNeg)] h (fun v h1 => onI v fun y => if y = 0 then (hk h1 o = 13 ∧ ix 0 (hLen h1 o) ∧ R' (some (vi 0)) (sJ h1 o 0 0)) else (hk h1 o = 13 ∧ ix 0 (hLen h1 o) ∧ R' (some (vi 0)) (sJ h1 o 0 1))) (fun n h' => XCo cod (fun k => R' (some (vi k)) h') n)) → WM lim (d - 1) jL [vr (some c), vi (hI h sc (x4_ + (1 : Int32)).toNatClampNeg), vr (some o)] h R' X) : onR (some sc) fun a1 => hk h a1 = 14 ∧ ix (x4_ + (1 : Int32)) (hLen h a1) ∧ 0 < d ∧ WM lim (d - 1) jL [vr (some c), vi (hI h a1 (x4_ + (1 : Int32)).toNatClampNeg), vr (some o)] h (fun v3 h2 => onI v3 fun x3 => onR (some sc) fun b1 => hk h2 b1 = 14 ∧ ix (x4_ + (1 : Int32)) (hLen h2 b1) ∧ onR (some m) fun a6 => (∀ q ∈ [((0 : Int), (7 : Nat))], hk h2 a6 = q.2) ∧ 0 < d ∧ WM lim (d - 1) jM [vr (some a6), vi (hI h2 b1 (x4_ + (1 : Int32)).toNatClampNeg)] h2 (TlB lim d c m o sc x4_ R X x3) X) X := by
  refine onR_i ⟨S.2.1.2.1, by rw [S.2.1.2.2.1]; exact hx1, by omega, wr _ ⟨S.1, by omega, ?_⟩⟩
  rw [sh_I S]
  refine tw _ _ (fun y h1 a s => onI_v (ite_i (fun c0 => ⟨s.2.2.1.2.1, ix0 s.2.2.1, onI_v (onR_i ⟨s.2.1.2.1, by rw [show hLen (sJ h1 o 0 _) sc = L from s.2.1.2.2.1]; exact hx1, onR_i ⟨all1.mpr s.2.2.2, by omega, ?_⟩⟩)⟩) (fun c0 => ⟨s.2.2.1.2.1, ix0 s.2.2.1, onI_v (onR_i ⟨s.2.1.2.1, by rw [show hLen (sJ h1 o 0 _) sc = L from s.2.1.2.2.1]; exact hx1, onR_i ⟨all1.mpr s.2.2.2, by omega, ?_⟩⟩)⟩))) (fun n h1 q => XCo.monoN (fun k hk0 a => onI_v ?_) hn q)
  · rw [sJ_I s]
    exact a _ _ _ (fun H' q e0 eJ => tb_N nx (by omega) q e0 (eJ.trans (if_pos c0).symm))
  · rw [sJ_I s]
    exact a _ _ _ (fun H' q e0 eJ => tb_N nx (by omega) q e0 (eJ.trans (if_neg c0).symm))
  · obtain ⟨a, s⟩ := a
    refine onR_i ⟨s.2.1.2.1, by rw [s.2.1.2.2.1]; exact hx1, onR_i ⟨all1.mpr s.2.2.2, by omega, ?_⟩⟩
    rw [sh_I s]
    exact a _ _ (fun y H' q e0 => tb_X nx (by omega) q e0 hk0)
theorem caseB2 (S : Shs h c m o sc L xs) (hx1 : ix (x4_ + (1 : Int32)) L) (hx2 : ix (x4_ + (2 : Int32)) L) (nx : Nxt lim d c m o sc L xs zz kk x4_ R X) (hd : 2 < d) (tw : Two lim (d - 1 - 1) (d - 1) c m o sc L xs zz kk h jI jM [vi (xs (x4_ + (1 : Int32)).toNatClampNeg), vi (xs (x4_ + (2 : Int32)).toNatClampNeg)] cod) (hn : ∀ p ∈ cod, p.2 ≠ 0) (wr : ∀ R' : RT, (hk h c = 6 ∧ 0 < d - 1 ∧ WM lim (d - 1 - 1) jI [vr (some c), vi (hI h sc (x4_ + (1 : Int32)).toNatClampNeg), vi (hI h sc (x4_ + (2 : Int32)).toNatClampNeg)] h (fun v h1 => onI v fun y => if y = 0 then (hk h1 o = 13 ∧ ix 0 (hLen h1 o) ∧ R' (some (vi 0)) (sJ h1 o 0 0)) else (hk h1 o = 13 ∧ ix 0 (hLen h1 o) ∧ R' (some (vi 0)) (sJ h1 o 0 1))) (fun n h' => XCo cod (fun k => R' (some (vi k)) h') n)) → WM lim (d - 1) jL [vr (some c), vi (hI h sc (x4_ + (1 : Int32)).toNatClampNeg), vi (hI h sc (x4_ + (2 : Int32)).toNatClampNeg), vr (some o)] h R' X) : onR (some sc) fun a1 => hk h a1 = 14 ∧ ix (x4_ + (1 : Int32)) (hLen h a1) ∧ onR (some sc) fun a2 => hk h a2 = 14 ∧ ix (x4_ + (2 : Int32)) (hLen h a2) ∧ 0 < d ∧ WM lim (d - 1) jL [vr (some c), vi (hI h a1 (x4_ + (1 : Int32)).toNatClampNeg), vi (hI h a2 (x4_ + (2 : Int32)).toNatClampNeg), vr (some o)] h (fun v3 h2 => onI v3 fun x3 => onR (some sc) fun b1 => hk h2 b1 = 14 ∧ ix (x4_ + (1 : Int32)) (hLen h2 b1) ∧ onR (some sc) fun b2 => hk h2 b2 = 14 ∧ ix (x4_ + (2 : Int32)) (hLen h2 b2) ∧ onR (some m) fun a6 => (∀ q ∈ [((0 : Int), (7 : Nat))], hk h2 a6 = q.2) ∧ 0 < d ∧ WM lim (d - 1) jM [vr (some a6), vi (hI h2 b1 (x4_ + (1 : Int32)).toNatClampNeg), vi (hI h2 b2 (x4_ + (2 : Int32)).toNatClampNeg)] h2 (TlB lim d c m o sc x4_ R X x3) X) X := by
  refine onR_i ⟨S.2.1.2.1, by rw [S.2.1.2.2.1]; exact hx1, onR_i ⟨S.2.1.2.1, by rw [S.2.1.2.2.1]; exact hx2, by omega, wr _ ⟨S.1, by omega, ?_⟩⟩⟩
  rw [sh_I S]
  refine tw _ _ (fun y h1 a s => onI_v (ite_i (fun c0 => ⟨s.2.2.1.2.1, ix0 s.2.2.1, onI_v (onR_i ⟨s.2.1.2.1, by rw [show hLen (sJ h1 o 0 _) sc = L from s.2.1.2.2.1]; exact hx1, onR_i ⟨s.2.1.2.1, by rw [show hLen (sJ h1 o 0 _) sc = L from s.2.1.2.2.1]; exact hx2, onR_i ⟨all1.mpr s.2.2.2, by omega, ?_⟩⟩⟩)⟩) (fun c0 => ⟨s.2.2.1.2.1, ix0 s.2.2.1, onI_v (onR_i ⟨s.2.1.2.1, by rw [show hLen (sJ h1 o 0 _) sc = L from s.2.1.2.2.1]; exact hx1, onR_i ⟨s.2.1.2.1, by rw [show hLen (sJ h1 o 0 _) sc = L from s.2.1.2.2.1]; exact hx2, onR_i ⟨all1.mpr s.2.2.2, by omega, ?_⟩⟩⟩)⟩))) (fun n h1 q => XCo.monoN (fun k hk0 a => onI_v ?_) hn q)
  · rw [sJ_I s]
    exact a _ _ _ (fun H' q e0 eJ => tb_N nx (by omega) q e0 (eJ.trans (if_pos c0).symm))
  · rw [sJ_I s]
    exact a _ _ _ (fun H' q e0 eJ => tb_N nx (by omega) q e0 (eJ.trans (if_neg c0).symm))
  · obtain ⟨a, s⟩ := a
    refine onR_i ⟨s.2.1.2.1, by rw [s.2.1.2.2.1]; exact hx1, onR_i ⟨s.2.1.2.1, by rw [s.2.1.2.2.1]; exact hx2, onR_i ⟨all1.mpr s.2.2.2, by omega, ?_⟩⟩⟩
    rw [sh_I s]
    exact a _ _ (fun y H' q e0 => tb_X nx (by omega) q e0 hk0)
theorem caseZ0 (S : Shs h c m o sc L xs)  (nx : Nxt lim d c m o sc L xs zz kk x4_ R X) (hd : 2 < d) (tw : Two0 lim (d - 1) (d - 1) c m o sc L xs zz kk h jI jM []) : onR (some c) fun e1 => (∀ q ∈ [((0 : Int), (6 : Nat))], hk h e1 = q.2) ∧ 0 < d ∧ WM lim (d - 1) jI [vr (some e1)] h (fun v3 h2 => onI v3 fun x3 => onR (some m) fun a6 => (∀ q ∈ [((0 : Int), (7 : Nat))], hk h2 a6 = q.2) ∧ 0 < d ∧ WM lim (d - 1) jM [vr (some a6)] h2 (TlZ lim d c m o sc x4_ l5_ l6_ R X x3) X) X := by
  refine onR_i ⟨all1.mpr S.1, by omega, ?_⟩
  refine tw _ _ (fun y h1 a s => onI_v (onR_i ⟨all1.mpr s.2.2.2, by omega, ?_⟩))
  refine a _ _ (fun H' q => onI_v ?_)
  rw [if_pos rfl]
  exact nx H' _ _ q
theorem caseZ1 (S : Shs h c m o sc L xs) (hx1 : ix (x4_ + (1 : Int32)) L) (nx : Nxt lim d c m o sc L xs zz kk x4_ R X) (hd : 2 < d) (tw : Two0 lim (d - 1) (d - 1) c m o sc L xs zz kk h jI jM [vi (xs (x4_ + (1 : Int32)).toNatClampNeg)]) : onR (some sc) fun a1 => hk h a1 = 14 ∧ ix (x4_ + (1 : Int32)) (hLen h a1) ∧ onR (some c) fun e1 => (∀ q ∈ [((0 : Int), (6 : Nat))], hk h e1 = q.2) ∧ 0 < d ∧ WM lim (d - 1) jI [vr (some e1), vi (hI h a1 (x4_ + (1 : Int32)).toNatClampNeg)] h (fun v3 h2 => onI v3 fun x3 => onR (some sc) fun b1 => hk h2 b1 = 14 ∧ ix (x4_ + (1 : Int32)) (hLen h2 b1) ∧ onR (some m) fun a6 => (∀ q ∈ [((0 : Int), (7 : Nat))], hk h2 a6 = q.2) ∧ 0 < d ∧ WM lim (d - 1) jM [vr (some a6), vi (hI h2 b1 (x4_ + (1 : Int32)).toNatClampNeg)] h2 (TlZ lim d c m o sc x4_ l5_ l6_ R X x3) X) X := by
  refine onR_i ⟨S.2.1.2.1, by rw [S.2.1.2.2.1]; exact hx1, onR_i ⟨all1.mpr S.1, by omega, ?_⟩⟩
  rw [sh_I S]
  refine tw _ _ (fun y h1 a s => onI_v (onR_i ⟨s.2.1.2.1, by rw [s.2.1.2.2.1]; exact hx1, onR_i ⟨all1.mpr s.2.2.2, by omega, ?_⟩⟩))
  rw [sh_I s]
  refine a _ _ (fun H' q => onI_v ?_)
  rw [if_pos rfl]
  exact nx H' _ _ q
end CASES
