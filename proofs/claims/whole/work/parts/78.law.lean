/-! printed by wip/whole/gen/gen30.py: the calls of the law that may throw -/
theorem onI_m {v : Option AV} {f f' : Int32 → Prop} (q : ∀ x, f x → f' x) (hf : onI v f) : onI v f' := onI_mono q hf
set_option maxRecDepth 100000 in
theorem B_La_accepts {lim : Nat × Nat} {d c o : Nat} {x1_ : Int32} {x2_ : Int32} {h : AHp} {R : RT} {X : XT}
    (q : hk h c = 6 ∧ 0 < d ∧ WM lim (d - 1) j_It_accepts [vr (some c), vi x1_, vi x2_] h (fun v h1 => onI v fun y => if y = 0 then (hk h1 o = 13 ∧ ix 0 (hLen h1 o) ∧ R (some (vi 0)) (sJ h1 o 0 0)) else (hk h1 o = 13 ∧ ix 0 (hLen h1 o) ∧ R (some (vi 0)) (sJ h1 o 0 1))) (fun n h' => (n = 1 ∧ R (some (vi 1)) h') ∨ (n = 3 ∧ R (some (vi 2)) h'))) : WM lim d j_La_accepts [vr (some c), vi x1_, vi x2_, vr (some o)] h R X :=
  WP.run [] (k := k_La_accepts) (hh := [(0, 17, 20, 1), (0, 17, 24, 3)]) rfl rfl 1000 0 ⟨all1.mpr q.1, q.2.1, WM.mono (fun v h1 z => onI_m (fun y z => ite_mono (fun z => ⟨z.1, z.2.1, rfl, z.2.2⟩) (fun z => ⟨z.1, z.2.1, rfl, z.2.2⟩) z) z) (fun n h' z => by rcases z with ⟨rfl, z⟩ | ⟨rfl, z⟩ <;> exact fun _ => ⟨rfl, z⟩) q.2.2⟩
set_option maxRecDepth 100000 in
theorem B_La_addCombinedFilter {lim : Nat × Nat} {d c o : Nat} {x1_ : Int32} {x2_ : Int32} {x3_ : Int32} {h : AHp} {R : RT} {X : XT}
    (q : hk h c = 6 ∧ 0 < d ∧ WM lim (d - 1) j_It_addCombinedFilter [vr (some c), vi x1_, vi x2_, vi x3_] h (fun v h1 => onI v fun y => hk h1 o = 13 ∧ ix 0 (hLen h1 o) ∧ R (some (vi 0)) (sJ h1 o 0 y.toInt64)) (fun n h' => (n = 1 ∧ R (some (vi 1)) h') ∨ (n = 2 ∧ R (some (vi 2)) h'))) : WM lim d j_La_addCombinedFilter [vr (some c), vi x1_, vi x2_, vi x3_, vr (some o)] h R X :=
  WP.run [] (k := k_La_addCombinedFilter) (hh := [(0, 12, 15, 1), (0, 12, 19, 2)]) rfl rfl 1000 0 ⟨all1.mpr q.1, q.2.1, WM.mono (fun v h1 z => onI_m (fun y z => ⟨z.1, z.2.1, rfl, z.2.2⟩) z) (fun n h' z => by rcases z with ⟨rfl, z⟩ | ⟨rfl, z⟩ <;> exact fun _ => ⟨rfl, z⟩) q.2.2⟩
set_option maxRecDepth 100000 in
theorem B_La_addHeavierFilter {lim : Nat × Nat} {d c o : Nat} {x1_ : Int32} {h : AHp} {R : RT} {X : XT}
    (q : hk h c = 6 ∧ 0 < d ∧ WM lim (d - 1) j_It_addHeavierFilter [vr (some c), vi x1_] h (fun v h1 => onI v fun y => hk h1 o = 13 ∧ ix 0 (hLen h1 o) ∧ R (some (vi 0)) (sJ h1 o 0 y.toInt64)) (fun n h' => (n = 3 ∧ R (some (vi 1)) h') ∨ (n = 2 ∧ R (some (vi 2)) h'))) : WM lim d j_La_addHeavierFilter [vr (some c), vi x1_, vr (some o)] h R X :=
  WP.run [] (k := k_La_addHeavierFilter) (hh := [(0, 9, 12, 3), (0, 9, 15, 2)]) rfl rfl 1000 0 ⟨all1.mpr q.1, q.2.1, WM.mono (fun v h1 z => onI_m (fun y z => ⟨z.1, z.2.1, rfl, z.2.2⟩) z) (fun n h' z => by rcases z with ⟨rfl, z⟩ | ⟨rfl, z⟩ <;> exact fun _ => ⟨rfl, z⟩) q.2.2⟩
set_option maxRecDepth 100000 in
theorem B_La_addRangeFilter {lim : Nat × Nat} {d c o : Nat} {x1_ : Int32} {x2_ : Int32} {x3_ : Int32} {h : AHp} {R : RT} {X : XT}
    (q : hk h c = 6 ∧ 0 < d ∧ WM lim (d - 1) j_It_addRangeFilter [vr (some c), vi x1_, vi x2_, vi x3_] h (fun v h1 => onI v fun y => hk h1 o = 13 ∧ ix 0 (hLen h1 o) ∧ R (some (vi 0)) (sJ h1 o 0 y.toInt64)) (fun n h' => (n = 1 ∧ R (some (vi 1)) h') ∨ (n = 2 ∧ R (some (vi 2)) h'))) : WM lim d j_La_addRangeFilter [vr (some c), vi x1_, vi x2_, vi x3_, vr (some o)] h R X :=
  WP.run [] (k := k_La_addRangeFilter) (hh := [(0, 12, 15, 1), (0, 12, 19, 2)]) rfl rfl 1000 0 ⟨all1.mpr q.1, q.2.1, WM.mono (fun v h1 z => onI_m (fun y z => ⟨z.1, z.2.1, rfl, z.2.2⟩) z) (fun n h' z => by rcases z with ⟨rfl, z⟩ | ⟨rfl, z⟩ <;> exact fun _ => ⟨rfl, z⟩) q.2.2⟩
set_option maxRecDepth 100000 in
theorem B_La_addWeight {lim : Nat × Nat} {d c o : Nat} {x1_ : Int32} {x2_ : Int32} {x3_ : Int32} {h : AHp} {R : RT} {X : XT}
    (q : hk h c = 6 ∧ 0 < d ∧ WM lim (d - 1) j_It_addWeight [vr (some c), vi x1_, vi x2_, vi x3_] h (fun v h1 => onI v fun y => hk h1 o = 13 ∧ ix 0 (hLen h1 o) ∧ R (some (vi 0)) (sJ h1 o 0 y.toInt64)) (fun n h' => (n = 1 ∧ R (some (vi 1)) h'))) : WM lim d j_La_addWeight [vr (some c), vi x1_, vi x2_, vi x3_, vr (some o)] h R X :=
  WP.run [] (k := k_La_addWeight) (hh := [(0, 12, 15, 1)]) rfl rfl 1000 0 ⟨all1.mpr q.1, q.2.1, WM.mono (fun v h1 z => onI_m (fun y z => ⟨z.1, z.2.1, rfl, z.2.2⟩) z) (fun n h' z => by obtain ⟨rfl, z⟩ := z; exact fun _ => ⟨rfl, z⟩) q.2.2⟩
set_option maxRecDepth 100000 in
theorem B_La_child {lim : Nat × Nat} {d c o : Nat} {x1_ : Int32} {x2_ : Int32} {h : AHp} {R : RT} {X : XT}
    (q : hk h c = 6 ∧ 0 < d ∧ WM lim (d - 1) j_It_child [vr (some c), vi x1_, vi x2_] h (fun v h1 => onI v fun y => hk h1 o = 13 ∧ ix 0 (hLen h1 o) ∧ R (some (vi 0)) (sJ h1 o 0 y.toInt64)) (fun n h' => (n = 3 ∧ R (some (vi 1)) h'))) : WM lim d j_La_child [vr (some c), vi x1_, vi x2_, vr (some o)] h R X :=
  WP.run [] (k := k_La_child) (hh := [(0, 10, 13, 3)]) rfl rfl 1000 0 ⟨all1.mpr q.1, q.2.1, WM.mono (fun v h1 z => onI_m (fun y z => ⟨z.1, z.2.1, rfl, z.2.2⟩) z) (fun n h' z => by obtain ⟨rfl, z⟩ := z; exact fun _ => ⟨rfl, z⟩) q.2.2⟩
set_option maxRecDepth 100000 in
theorem B_La_covered {lim : Nat × Nat} {d c o : Nat} {x1_ : Int32} {x2_ : Int32} {h : AHp} {R : RT} {X : XT}
    (q : hk h c = 6 ∧ 0 < d ∧ WM lim (d - 1) j_It_covered [vr (some c), vi x1_, vi x2_] h (fun v h1 => onI v fun y => hk h1 o = 13 ∧ ix 0 (hLen h1 o) ∧ R (some (vi 0)) (sJ h1 o 0 y.toInt64)) (fun n h' => (n = 1 ∧ R (some (vi 1)) h'))) : WM lim d j_La_covered [vr (some c), vi x1_, vi x2_, vr (some o)] h R X :=
  WP.run [] (k := k_La_covered) (hh := [(0, 10, 13, 1)]) rfl rfl 1000 0 ⟨all1.mpr q.1, q.2.1, WM.mono (fun v h1 z => onI_m (fun y z => ⟨z.1, z.2.1, rfl, z.2.2⟩) z) (fun n h' z => by obtain ⟨rfl, z⟩ := z; exact fun _ => ⟨rfl, z⟩) q.2.2⟩
set_option maxRecDepth 100000 in
theorem B_La_deepestPoint {lim : Nat × Nat} {d c o : Nat}  {h : AHp} {R : RT} {X : XT}
    (q : hk h c = 6 ∧ 0 < d ∧ WM lim (d - 1) j_It_deepestPoint [vr (some c)] h (fun v h1 => onI v fun y => hk h1 o = 13 ∧ ix 0 (hLen h1 o) ∧ R (some (vi 0)) (sJ h1 o 0 y.toInt64)) (fun n h' => (n = 3 ∧ R (some (vi 1)) h'))) : WM lim d j_La_deepestPoint [vr (some c), vr (some o)] h R X :=
  WP.run [] (k := k_La_deepestPoint) (hh := [(0, 8, 11, 3)]) rfl rfl 1000 0 ⟨all1.mpr q.1, q.2.1, WM.mono (fun v h1 z => onI_m (fun y z => ⟨z.1, z.2.1, rfl, z.2.2⟩) z) (fun n h' z => by obtain ⟨rfl, z⟩ := z; exact fun _ => ⟨rfl, z⟩) q.2.2⟩
set_option maxRecDepth 100000 in
theorem B_La_feed {lim : Nat × Nat} {d c o : Nat} {x1_ : Int32} {h : AHp} {R : RT} {X : XT}
    (q : hk h c = 6 ∧ 0 < d ∧ WM lim (d - 1) j_It_feed [vr (some c), vi x1_] h (fun v h1 => onI v fun y => hk h1 o = 13 ∧ ix 0 (hLen h1 o) ∧ R (some (vi 0)) (sJ h1 o 0 y.toInt64)) (fun n h' => (n = 1 ∧ R (some (vi 1)) h') ∨ (n = 2 ∧ R (some (vi 2)) h'))) : WM lim d j_La_feed [vr (some c), vi x1_, vr (some o)] h R X :=
  WP.run [] (k := k_La_feed) (hh := [(0, 9, 12, 1), (0, 9, 15, 2)]) rfl rfl 1000 0 ⟨all1.mpr q.1, q.2.1, WM.mono (fun v h1 z => onI_m (fun y z => ⟨z.1, z.2.1, rfl, z.2.2⟩) z) (fun n h' z => by rcases z with ⟨rfl, z⟩ | ⟨rfl, z⟩ <;> exact fun _ => ⟨rfl, z⟩) q.2.2⟩
set_option maxRecDepth 100000 in
theorem B_La_firstOverlap {lim : Nat × Nat} {d c o : Nat} {x1_ : Int32} {x2_ : Int32} {h : AHp} {R : RT} {X : XT}
    (q : hk h c = 6 ∧ 0 < d ∧ WM lim (d - 1) j_It_firstOverlap [vr (some c), vi x1_, vi x2_] h (fun v h1 => onI v fun y => hk h1 o = 13 ∧ ix 0 (hLen h1 o) ∧ R (some (vi 0)) (sJ h1 o 0 y.toInt64)) (fun n h' => (n = 1 ∧ R (some (vi 1)) h'))) : WM lim d j_La_firstOverlap [vr (some c), vi x1_, vi x2_, vr (some o)] h R X :=
  WP.run [] (k := k_La_firstOverlap) (hh := [(0, 10, 13, 1)]) rfl rfl 1000 0 ⟨all1.mpr q.1, q.2.1, WM.mono (fun v h1 z => onI_m (fun y z => ⟨z.1, z.2.1, rfl, z.2.2⟩) z) (fun n h' z => by obtain ⟨rfl, z⟩ := z; exact fun _ => ⟨rfl, z⟩) q.2.2⟩
set_option maxRecDepth 100000 in
theorem B_La_hasNext {lim : Nat × Nat} {d c o : Nat} {x1_ : Int32} {h : AHp} {R : RT} {X : XT}
    (q : hk h c = 6 ∧ 0 < d ∧ WM lim (d - 1) j_It_hasNext [vr (some c), vi x1_] h (fun v h1 => onI v fun y => if y = 0 then (hk h1 o = 13 ∧ ix 0 (hLen h1 o) ∧ R (some (vi 0)) (sJ h1 o 0 0)) else (hk h1 o = 13 ∧ ix 0 (hLen h1 o) ∧ R (some (vi 0)) (sJ h1 o 0 1))) (fun n h' => (n = 1 ∧ R (some (vi 1)) h') ∨ (n = 2 ∧ R (some (vi 2)) h'))) : WM lim d j_La_hasNext [vr (some c), vi x1_, vr (some o)] h R X :=
  WP.run [] (k := k_La_hasNext) (hh := [(0, 16, 19, 1), (0, 16, 22, 2)]) rfl rfl 1000 0 ⟨all1.mpr q.1, q.2.1, WM.mono (fun v h1 z => onI_m (fun y z => ite_mono (fun z => ⟨z.1, z.2.1, rfl, z.2.2⟩) (fun z => ⟨z.1, z.2.1, rfl, z.2.2⟩) z) z) (fun n h' z => by rcases z with ⟨rfl, z⟩ | ⟨rfl, z⟩ <;> exact fun _ => ⟨rfl, z⟩) q.2.2⟩
set_option maxRecDepth 100000 in
theorem B_La_heaviest {lim : Nat × Nat} {d c o : Nat} {x1_ : Int32} {x2_ : Int32} {h : AHp} {R : RT} {X : XT}
    (q : hk h c = 6 ∧ 0 < d ∧ WM lim (d - 1) j_It_heaviest [vr (some c), vi x1_, vi x2_] h (fun v h1 => onI v fun y => hk h1 o = 13 ∧ ix 0 (hLen h1 o) ∧ R (some (vi 0)) (sJ h1 o 0 y.toInt64)) (fun n h' => (n = 1 ∧ R (some (vi 1)) h'))) : WM lim d j_La_heaviest [vr (some c), vi x1_, vi x2_, vr (some o)] h R X :=
  WP.run [] (k := k_La_heaviest) (hh := [(0, 10, 13, 1)]) rfl rfl 1000 0 ⟨all1.mpr q.1, q.2.1, WM.mono (fun v h1 z => onI_m (fun y z => ⟨z.1, z.2.1, rfl, z.2.2⟩) z) (fun n h' z => by obtain ⟨rfl, z⟩ := z; exact fun _ => ⟨rfl, z⟩) q.2.2⟩
set_option maxRecDepth 100000 in
theorem B_La_heaviestOverlap {lim : Nat × Nat} {d c o : Nat} {x1_ : Int32} {x2_ : Int32} {x3_ : Int32} {h : AHp} {R : RT} {X : XT}
    (q : hk h c = 6 ∧ 0 < d ∧ WM lim (d - 1) j_It_heaviestOverlap [vr (some c), vi x1_, vi x2_, vi x3_] h (fun v h1 => onI v fun y => hk h1 o = 13 ∧ ix 0 (hLen h1 o) ∧ R (some (vi 0)) (sJ h1 o 0 y.toInt64)) (fun n h' => (n = 1 ∧ R (some (vi 1)) h'))) : WM lim d j_La_heaviestOverlap [vr (some c), vi x1_, vi x2_, vi x3_, vr (some o)] h R X :=
  WP.run [] (k := k_La_heaviestOverlap) (hh := [(0, 12, 15, 1)]) rfl rfl 1000 0 ⟨all1.mpr q.1, q.2.1, WM.mono (fun v h1 z => onI_m (fun y z => ⟨z.1, z.2.1, rfl, z.2.2⟩) z) (fun n h' z => by obtain ⟨rfl, z⟩ := z; exact fun _ => ⟨rfl, z⟩) q.2.2⟩
set_option maxRecDepth 100000 in
theorem B_La_high {lim : Nat × Nat} {d c o : Nat} {x1_ : Int32} {h : AHp} {R : RT} {X : XT}
    (q : hk h c = 6 ∧ 0 < d ∧ WM lim (d - 1) j_It_high [vr (some c), vi x1_] h (fun v h1 => onI v fun y => hk h1 o = 13 ∧ ix 0 (hLen h1 o) ∧ R (some (vi 0)) (sJ h1 o 0 y.toInt64)) (fun n h' => (n = 3 ∧ R (some (vi 1)) h'))) : WM lim d j_La_high [vr (some c), vi x1_, vr (some o)] h R X :=
  WP.run [] (k := k_La_high) (hh := [(0, 9, 12, 3)]) rfl rfl 1000 0 ⟨all1.mpr q.1, q.2.1, WM.mono (fun v h1 z => onI_m (fun y z => ⟨z.1, z.2.1, rfl, z.2.2⟩) z) (fun n h' z => by obtain ⟨rfl, z⟩ := z; exact fun _ => ⟨rfl, z⟩) q.2.2⟩
set_option maxRecDepth 100000 in
theorem B_La_insert {lim : Nat × Nat} {d c o : Nat} {x1_ : Int32} {x2_ : Int32} {x3_ : Int32} {h : AHp} {R : RT} {X : XT}
    (q : hk h c = 6 ∧ 0 < d ∧ WM lim (d - 1) j_It_insert [vr (some c), vi x1_, vi x2_, vi x3_] h (fun v h1 => onI v fun y => hk h1 o = 13 ∧ ix 0 (hLen h1 o) ∧ R (some (vi 0)) (sJ h1 o 0 y.toInt64)) (fun n h' => (n = 1 ∧ R (some (vi 1)) h') ∨ (n = 2 ∧ R (some (vi 2)) h'))) : WM lim d j_La_insert [vr (some c), vi x1_, vi x2_, vi x3_, vr (some o)] h R X :=
  WP.run [] (k := k_La_insert) (hh := [(0, 12, 15, 1), (0, 12, 19, 2)]) rfl rfl 1000 0 ⟨all1.mpr q.1, q.2.1, WM.mono (fun v h1 z => onI_m (fun y z => ⟨z.1, z.2.1, rfl, z.2.2⟩) z) (fun n h' z => by rcases z with ⟨rfl, z⟩ | ⟨rfl, z⟩ <;> exact fun _ => ⟨rfl, z⟩) q.2.2⟩
set_option maxRecDepth 100000 in
theorem B_La_isRed {lim : Nat × Nat} {d c o : Nat} {x1_ : Int32} {h : AHp} {R : RT} {X : XT}
    (q : hk h c = 6 ∧ 0 < d ∧ WM lim (d - 1) j_It_isRed [vr (some c), vi x1_] h (fun v h1 => onI v fun y => if y = 0 then (hk h1 o = 13 ∧ ix 0 (hLen h1 o) ∧ R (some (vi 0)) (sJ h1 o 0 0)) else (hk h1 o = 13 ∧ ix 0 (hLen h1 o) ∧ R (some (vi 0)) (sJ h1 o 0 1))) (fun n h' => (n = 3 ∧ R (some (vi 1)) h'))) : WM lim d j_La_isRed [vr (some c), vi x1_, vr (some o)] h R X :=
  WP.run [] (k := k_La_isRed) (hh := [(0, 16, 19, 3)]) rfl rfl 1000 0 ⟨all1.mpr q.1, q.2.1, WM.mono (fun v h1 z => onI_m (fun y z => ite_mono (fun z => ⟨z.1, z.2.1, rfl, z.2.2⟩) (fun z => ⟨z.1, z.2.1, rfl, z.2.2⟩) z) z) (fun n h' z => by obtain ⟨rfl, z⟩ := z; exact fun _ => ⟨rfl, z⟩) q.2.2⟩
set_option maxRecDepth 100000 in
theorem B_La_load {lim : Nat × Nat} {d c o : Nat}  {h : AHp} {R : RT} {X : XT}
    (q : hk h c = 6 ∧ 0 < d ∧ WM lim (d - 1) j_It_load [vr (some c)] h (fun v h1 => onI v fun y => hk h1 o = 13 ∧ ix 0 (hLen h1 o) ∧ R (some (vi 0)) (sJ h1 o 0 y.toInt64)) (fun n h' => (n = 2 ∧ R (some (vi 1)) h'))) : WM lim d j_La_load [vr (some c), vr (some o)] h R X :=
  WP.run [] (k := k_La_load) (hh := [(0, 8, 11, 2)]) rfl rfl 1000 0 ⟨all1.mpr q.1, q.2.1, WM.mono (fun v h1 z => onI_m (fun y z => ⟨z.1, z.2.1, rfl, z.2.2⟩) z) (fun n h' z => by obtain ⟨rfl, z⟩ := z; exact fun _ => ⟨rfl, z⟩) q.2.2⟩
set_option maxRecDepth 100000 in
theorem B_La_low {lim : Nat × Nat} {d c o : Nat} {x1_ : Int32} {h : AHp} {R : RT} {X : XT}
    (q : hk h c = 6 ∧ 0 < d ∧ WM lim (d - 1) j_It_low [vr (some c), vi x1_] h (fun v h1 => onI v fun y => hk h1 o = 13 ∧ ix 0 (hLen h1 o) ∧ R (some (vi 0)) (sJ h1 o 0 y.toInt64)) (fun n h' => (n = 3 ∧ R (some (vi 1)) h'))) : WM lim d j_La_low [vr (some c), vi x1_, vr (some o)] h R X :=
  WP.run [] (k := k_La_low) (hh := [(0, 9, 12, 3)]) rfl rfl 1000 0 ⟨all1.mpr q.1, q.2.1, WM.mono (fun v h1 z => onI_m (fun y z => ⟨z.1, z.2.1, rfl, z.2.2⟩) z) (fun n h' z => by obtain ⟨rfl, z⟩ := z; exact fun _ => ⟨rfl, z⟩) q.2.2⟩
set_option maxRecDepth 100000 in
theorem B_La_matchCount {lim : Nat × Nat} {d c o : Nat} {x1_ : Int32} {h : AHp} {R : RT} {X : XT}
    (q : hk h c = 6 ∧ 0 < d ∧ WM lim (d - 1) j_It_matchCount [vr (some c), vi x1_] h (fun v h1 => onI v fun y => hk h1 o = 13 ∧ ix 0 (hLen h1 o) ∧ R (some (vi 0)) (sJ h1 o 0 y.toInt64)) (fun n h' => (n = 1 ∧ R (some (vi 1)) h'))) : WM lim d j_La_matchCount [vr (some c), vi x1_, vr (some o)] h R X :=
  WP.run [] (k := k_La_matchCount) (hh := [(0, 9, 12, 1)]) rfl rfl 1000 0 ⟨all1.mpr q.1, q.2.1, WM.mono (fun v h1 z => onI_m (fun y z => ⟨z.1, z.2.1, rfl, z.2.2⟩) z) (fun n h' z => by obtain ⟨rfl, z⟩ := z; exact fun _ => ⟨rfl, z⟩) q.2.2⟩
set_option maxRecDepth 100000 in
theorem B_La_nearest {lim : Nat × Nat} {d c o : Nat} {x1_ : Int32} {h : AHp} {R : RT} {X : XT}
    (q : hk h c = 6 ∧ 0 < d ∧ WM lim (d - 1) j_It_nearest [vr (some c), vi x1_] h (fun v h1 => onI v fun y => hk h1 o = 13 ∧ ix 0 (hLen h1 o) ∧ R (some (vi 0)) (sJ h1 o 0 y.toInt64)) (fun n h' => (n = 1 ∧ R (some (vi 1)) h'))) : WM lim d j_La_nearest [vr (some c), vi x1_, vr (some o)] h R X :=
  WP.run [] (k := k_La_nearest) (hh := [(0, 9, 12, 1)]) rfl rfl 1000 0 ⟨all1.mpr q.1, q.2.1, WM.mono (fun v h1 z => onI_m (fun y z => ⟨z.1, z.2.1, rfl, z.2.2⟩) z) (fun n h' z => by obtain ⟨rfl, z⟩ := z; exact fun _ => ⟨rfl, z⟩) q.2.2⟩
set_option maxRecDepth 100000 in
theorem B_La_next {lim : Nat × Nat} {d c o : Nat} {x1_ : Int32} {h : AHp} {R : RT} {X : XT}
    (q : hk h c = 6 ∧ 0 < d ∧ WM lim (d - 1) j_It_next [vr (some c), vi x1_] h (fun v h1 => onI v fun y => hk h1 o = 13 ∧ ix 0 (hLen h1 o) ∧ R (some (vi 0)) (sJ h1 o 0 y.toInt64)) (fun n h' => (n = 1 ∧ R (some (vi 1)) h') ∨ (n = 2 ∧ R (some (vi 2)) h') ∨ (n = 3 ∧ R (some (vi 3)) h'))) : WM lim d j_La_next [vr (some c), vi x1_, vr (some o)] h R X :=
  WP.run [] (k := k_La_next) (hh := [(0, 9, 12, 1), (0, 9, 15, 2), (0, 9, 18, 3)]) rfl rfl 1000 0 ⟨all1.mpr q.1, q.2.1, WM.mono (fun v h1 z => onI_m (fun y z => ⟨z.1, z.2.1, rfl, z.2.2⟩) z) (fun n h' z => by rcases z with ⟨rfl, z⟩ | ⟨rfl, z⟩ | ⟨rfl, z⟩ <;> exact fun _ => ⟨rfl, z⟩) q.2.2⟩
set_option maxRecDepth 100000 in
theorem B_La_open {lim : Nat × Nat} {d c o : Nat} {x1_ : Int32} {x2_ : Int32} {h : AHp} {R : RT} {X : XT}
    (q : hk h c = 6 ∧ 0 < d ∧ WM lim (d - 1) j_It_open [vr (some c), vi x1_, vi x2_] h (fun v h1 => onI v fun y => hk h1 o = 13 ∧ ix 0 (hLen h1 o) ∧ R (some (vi 0)) (sJ h1 o 0 y.toInt64)) (fun n h' => (n = 1 ∧ R (some (vi 1)) h'))) : WM lim d j_La_open [vr (some c), vi x1_, vi x2_, vr (some o)] h R X :=
  WP.run [] (k := k_La_open) (hh := [(0, 10, 13, 1)]) rfl rfl 1000 0 ⟨all1.mpr q.1, q.2.1, WM.mono (fun v h1 z => onI_m (fun y z => ⟨z.1, z.2.1, rfl, z.2.2⟩) z) (fun n h' z => by obtain ⟨rfl, z⟩ := z; exact fun _ => ⟨rfl, z⟩) q.2.2⟩
set_option maxRecDepth 100000 in
theorem B_La_parent {lim : Nat × Nat} {d c o : Nat} {x1_ : Int32} {h : AHp} {R : RT} {X : XT}
    (q : hk h c = 6 ∧ 0 < d ∧ WM lim (d - 1) j_It_parent [vr (some c), vi x1_] h (fun v h1 => onI v fun y => hk h1 o = 13 ∧ ix 0 (hLen h1 o) ∧ R (some (vi 0)) (sJ h1 o 0 y.toInt64)) (fun n h' => (n = 3 ∧ R (some (vi 1)) h'))) : WM lim d j_La_parent [vr (some c), vi x1_, vr (some o)] h R X :=
  WP.run [] (k := k_La_parent) (hh := [(0, 9, 12, 3)]) rfl rfl 1000 0 ⟨all1.mpr q.1, q.2.1, WM.mono (fun v h1 z => onI_m (fun y z => ⟨z.1, z.2.1, rfl, z.2.2⟩) z) (fun n h' z => by obtain ⟨rfl, z⟩ := z; exact fun _ => ⟨rfl, z⟩) q.2.2⟩
set_option maxRecDepth 100000 in
theorem B_La_parseFilter {lim : Nat × Nat} {d c o : Nat}  {h : AHp} {R : RT} {X : XT}
    (q : hk h c = 6 ∧ 0 < d ∧ WM lim (d - 1) j_It_parseFilter [vr (some c)] h (fun v h1 => onI v fun y => hk h1 o = 13 ∧ ix 0 (hLen h1 o) ∧ R (some (vi 0)) (sJ h1 o 0 y.toInt64)) (fun n h' => (n = 2 ∧ R (some (vi 1)) h'))) : WM lim d j_La_parseFilter [vr (some c), vr (some o)] h R X :=
  WP.run [] (k := k_La_parseFilter) (hh := [(0, 8, 11, 2)]) rfl rfl 1000 0 ⟨all1.mpr q.1, q.2.1, WM.mono (fun v h1 z => onI_m (fun y z => ⟨z.1, z.2.1, rfl, z.2.2⟩) z) (fun n h' z => by obtain ⟨rfl, z⟩ := z; exact fun _ => ⟨rfl, z⟩) q.2.2⟩
set_option maxRecDepth 100000 in
theorem B_La_piercingPoint {lim : Nat × Nat} {d c o : Nat} {x1_ : Int32} {h : AHp} {R : RT} {X : XT}
    (q : hk h c = 6 ∧ 0 < d ∧ WM lim (d - 1) j_It_piercingPoint [vr (some c), vi x1_] h (fun v h1 => onI v fun y => hk h1 o = 13 ∧ ix 0 (hLen h1 o) ∧ R (some (vi 0)) (sJ h1 o 0 y.toInt64)) (fun n h' => (n = 4 ∧ R (some (vi 1)) h'))) : WM lim d j_La_piercingPoint [vr (some c), vi x1_, vr (some o)] h R X :=
  WP.run [] (k := k_La_piercingPoint) (hh := [(0, 9, 12, 4)]) rfl rfl 1000 0 ⟨all1.mpr q.1, q.2.1, WM.mono (fun v h1 z => onI_m (fun y z => ⟨z.1, z.2.1, rfl, z.2.2⟩) z) (fun n h' z => by obtain ⟨rfl, z⟩ := z; exact fun _ => ⟨rfl, z⟩) q.2.2⟩
set_option maxRecDepth 100000 in
theorem B_La_rank {lim : Nat × Nat} {d c o : Nat} {x1_ : Int32} {h : AHp} {R : RT} {X : XT}
    (q : hk h c = 6 ∧ 0 < d ∧ WM lim (d - 1) j_It_rank [vr (some c), vi x1_] h (fun v h1 => onI v fun y => hk h1 o = 13 ∧ ix 0 (hLen h1 o) ∧ R (some (vi 0)) (sJ h1 o 0 y.toInt64)) (fun n h' => (n = 3 ∧ R (some (vi 1)) h'))) : WM lim d j_La_rank [vr (some c), vi x1_, vr (some o)] h R X :=
  WP.run [] (k := k_La_rank) (hh := [(0, 9, 12, 3)]) rfl rfl 1000 0 ⟨all1.mpr q.1, q.2.1, WM.mono (fun v h1 z => onI_m (fun y z => ⟨z.1, z.2.1, rfl, z.2.2⟩) z) (fun n h' z => by obtain ⟨rfl, z⟩ := z; exact fun _ => ⟨rfl, z⟩) q.2.2⟩
set_option maxRecDepth 100000 in
theorem B_La_remove {lim : Nat × Nat} {d c o : Nat} {x1_ : Int32} {h : AHp} {R : RT} {X : XT}
    (q : hk h c = 6 ∧ 0 < d ∧ WM lim (d - 1) j_It_remove [vr (some c), vi x1_] h (fun v h1 => onI v fun y => hk h1 o = 13 ∧ ix 0 (hLen h1 o) ∧ R (some (vi 0)) (sJ h1 o 0 y.toInt64)) (fun n h' => (n = 3 ∧ R (some (vi 1)) h'))) : WM lim d j_La_remove [vr (some c), vi x1_, vr (some o)] h R X :=
  WP.run [] (k := k_La_remove) (hh := [(0, 9, 12, 3)]) rfl rfl 1000 0 ⟨all1.mpr q.1, q.2.1, WM.mono (fun v h1 z => onI_m (fun y z => ⟨z.1, z.2.1, rfl, z.2.2⟩) z) (fun n h' z => by obtain ⟨rfl, z⟩ := z; exact fun _ => ⟨rfl, z⟩) q.2.2⟩
set_option maxRecDepth 100000 in
theorem B_La_removeCurrent {lim : Nat × Nat} {d c o : Nat} {x1_ : Int32} {h : AHp} {R : RT} {X : XT}
    (q : hk h c = 6 ∧ 0 < d ∧ WM lim (d - 1) j_It_removeCurrent [vr (some c), vi x1_] h (fun v h1 => onI v fun y => hk h1 o = 13 ∧ ix 0 (hLen h1 o) ∧ R (some (vi 0)) (sJ h1 o 0 y.toInt64)) (fun n h' => (n = 1 ∧ R (some (vi 1)) h') ∨ (n = 2 ∧ R (some (vi 2)) h'))) : WM lim d j_La_removeCurrent [vr (some c), vi x1_, vr (some o)] h R X :=
  WP.run [] (k := k_La_removeCurrent) (hh := [(0, 9, 12, 1), (0, 9, 15, 2)]) rfl rfl 1000 0 ⟨all1.mpr q.1, q.2.1, WM.mono (fun v h1 z => onI_m (fun y z => ⟨z.1, z.2.1, rfl, z.2.2⟩) z) (fun n h' z => by rcases z with ⟨rfl, z⟩ | ⟨rfl, z⟩ <;> exact fun _ => ⟨rfl, z⟩) q.2.2⟩
set_option maxRecDepth 100000 in
theorem B_La_restore {lim : Nat × Nat} {d c o : Nat} {x1_ : Int32} {h : AHp} {R : RT} {X : XT}
    (q : hk h c = 6 ∧ 0 < d ∧ WM lim (d - 1) j_It_restore [vr (some c), vi x1_] h (fun v h1 => onI v fun y => hk h1 o = 13 ∧ ix 0 (hLen h1 o) ∧ R (some (vi 0)) (sJ h1 o 0 y.toInt64)) (fun n h' => (n = 3 ∧ R (some (vi 1)) h') ∨ (n = 2 ∧ R (some (vi 2)) h'))) : WM lim d j_La_restore [vr (some c), vi x1_, vr (some o)] h R X :=
  WP.run [] (k := k_La_restore) (hh := [(0, 9, 12, 3), (0, 9, 15, 2)]) rfl rfl 1000 0 ⟨all1.mpr q.1, q.2.1, WM.mono (fun v h1 z => onI_m (fun y z => ⟨z.1, z.2.1, rfl, z.2.2⟩) z) (fun n h' z => by rcases z with ⟨rfl, z⟩ | ⟨rfl, z⟩ <;> exact fun _ => ⟨rfl, z⟩) q.2.2⟩
set_option maxRecDepth 100000 in
theorem B_La_scheduled {lim : Nat × Nat} {d c o : Nat} {x1_ : Int32} {h : AHp} {R : RT} {X : XT}
    (q : hk h c = 6 ∧ 0 < d ∧ WM lim (d - 1) j_It_scheduled [vr (some c), vi x1_] h (fun v h1 => onI v fun y => hk h1 o = 13 ∧ ix 0 (hLen h1 o) ∧ R (some (vi 0)) (sJ h1 o 0 y.toInt64)) (fun n h' => (n = 4 ∧ R (some (vi 1)) h'))) : WM lim d j_La_scheduled [vr (some c), vi x1_, vr (some o)] h R X :=
  WP.run [] (k := k_La_scheduled) (hh := [(0, 9, 12, 4)]) rfl rfl 1000 0 ⟨all1.mpr q.1, q.2.1, WM.mono (fun v h1 z => onI_m (fun y z => ⟨z.1, z.2.1, rfl, z.2.2⟩) z) (fun n h' z => by obtain ⟨rfl, z⟩ := z; exact fun _ => ⟨rfl, z⟩) q.2.2⟩
set_option maxRecDepth 100000 in
theorem B_La_select {lim : Nat × Nat} {d c o : Nat} {x1_ : Int32} {h : AHp} {R : RT} {X : XT}
    (q : hk h c = 6 ∧ 0 < d ∧ WM lim (d - 1) j_It_select [vr (some c), vi x1_] h (fun v h1 => onI v fun y => hk h1 o = 13 ∧ ix 0 (hLen h1 o) ∧ R (some (vi 0)) (sJ h1 o 0 y.toInt64)) (fun n h' => (n = 4 ∧ R (some (vi 1)) h'))) : WM lim d j_La_select [vr (some c), vi x1_, vr (some o)] h R X :=
  WP.run [] (k := k_La_select) (hh := [(0, 9, 12, 4)]) rfl rfl 1000 0 ⟨all1.mpr q.1, q.2.1, WM.mono (fun v h1 z => onI_m (fun y z => ⟨z.1, z.2.1, rfl, z.2.2⟩) z) (fun n h' z => by obtain ⟨rfl, z⟩ := z; exact fun _ => ⟨rfl, z⟩) q.2.2⟩
set_option maxRecDepth 100000 in
theorem B_La_setRebuildPercentage {lim : Nat × Nat} {d c o : Nat} {x1_ : Int32} {h : AHp} {R : RT} {X : XT}
    (q : hk h c = 6 ∧ 0 < d ∧ WM lim (d - 1) j_It_setRebuildPercentage [vr (some c), vi x1_] h (fun v h1 => onI v fun y => hk h1 o = 13 ∧ ix 0 (hLen h1 o) ∧ R (some (vi 0)) (sJ h1 o 0 y.toInt64)) (fun n h' => (n = 1 ∧ R (some (vi 1)) h'))) : WM lim d j_La_setRebuildPercentage [vr (some c), vi x1_, vr (some o)] h R X :=
  WP.run [] (k := k_La_setRebuildPercentage) (hh := [(0, 9, 12, 1)]) rfl rfl 1000 0 ⟨all1.mpr q.1, q.2.1, WM.mono (fun v h1 z => onI_m (fun y z => ⟨z.1, z.2.1, rfl, z.2.2⟩) z) (fun n h' z => by obtain ⟨rfl, z⟩ := z; exact fun _ => ⟨rfl, z⟩) q.2.2⟩
set_option maxRecDepth 100000 in
theorem B_La_state {lim : Nat × Nat} {d c o : Nat} {x1_ : Int32} {h : AHp} {R : RT} {X : XT}
    (q : hk h c = 6 ∧ 0 < d ∧ WM lim (d - 1) j_It_state [vr (some c), vi x1_] h (fun v h1 => onI v fun y => hk h1 o = 13 ∧ ix 0 (hLen h1 o) ∧ R (some (vi 0)) (sJ h1 o 0 y.toInt64)) (fun n h' => (n = 3 ∧ R (some (vi 1)) h'))) : WM lim d j_La_state [vr (some c), vi x1_, vr (some o)] h R X :=
  WP.run [] (k := k_La_state) (hh := [(0, 9, 12, 3)]) rfl rfl 1000 0 ⟨all1.mpr q.1, q.2.1, WM.mono (fun v h1 z => onI_m (fun y z => ⟨z.1, z.2.1, rfl, z.2.2⟩) z) (fun n h' z => by obtain ⟨rfl, z⟩ := z; exact fun _ => ⟨rfl, z⟩) q.2.2⟩
set_option maxRecDepth 100000 in
theorem B_La_subtreeHigh {lim : Nat × Nat} {d c o : Nat} {x1_ : Int32} {h : AHp} {R : RT} {X : XT}
    (q : hk h c = 6 ∧ 0 < d ∧ WM lim (d - 1) j_It_subtreeHigh [vr (some c), vi x1_] h (fun v h1 => onI v fun y => hk h1 o = 13 ∧ ix 0 (hLen h1 o) ∧ R (some (vi 0)) (sJ h1 o 0 y.toInt64)) (fun n h' => (n = 3 ∧ R (some (vi 1)) h') ∨ (n = 2 ∧ R (some (vi 2)) h'))) : WM lim d j_La_subtreeHigh [vr (some c), vi x1_, vr (some o)] h R X :=
  WP.run [] (k := k_La_subtreeHigh) (hh := [(0, 9, 12, 3), (0, 9, 15, 2)]) rfl rfl 1000 0 ⟨all1.mpr q.1, q.2.1, WM.mono (fun v h1 z => onI_m (fun y z => ⟨z.1, z.2.1, rfl, z.2.2⟩) z) (fun n h' z => by rcases z with ⟨rfl, z⟩ | ⟨rfl, z⟩ <;> exact fun _ => ⟨rfl, z⟩) q.2.2⟩
set_option maxRecDepth 100000 in
theorem B_La_subtreeSize {lim : Nat × Nat} {d c o : Nat} {x1_ : Int32} {h : AHp} {R : RT} {X : XT}
    (q : hk h c = 6 ∧ 0 < d ∧ WM lim (d - 1) j_It_subtreeSize [vr (some c), vi x1_] h (fun v h1 => onI v fun y => hk h1 o = 13 ∧ ix 0 (hLen h1 o) ∧ R (some (vi 0)) (sJ h1 o 0 y.toInt64)) (fun n h' => (n = 3 ∧ R (some (vi 1)) h'))) : WM lim d j_La_subtreeSize [vr (some c), vi x1_, vr (some o)] h R X :=
  WP.run [] (k := k_La_subtreeSize) (hh := [(0, 9, 12, 3)]) rfl rfl 1000 0 ⟨all1.mpr q.1, q.2.1, WM.mono (fun v h1 z => onI_m (fun y z => ⟨z.1, z.2.1, rfl, z.2.2⟩) z) (fun n h' z => by obtain ⟨rfl, z⟩ := z; exact fun _ => ⟨rfl, z⟩) q.2.2⟩
set_option maxRecDepth 100000 in
theorem B_La_subtreeWeight {lim : Nat × Nat} {d c o : Nat} {x1_ : Int32} {h : AHp} {R : RT} {X : XT}
    (q : hk h c = 6 ∧ 0 < d ∧ WM lim (d - 1) j_It_subtreeWeight [vr (some c), vi x1_] h (fun v h1 => onI v fun y => hk h1 o = 13 ∧ ix 0 (hLen h1 o) ∧ R (some (vi 0)) (sJ h1 o 0 y.toInt64)) (fun n h' => (n = 3 ∧ R (some (vi 1)) h') ∨ (n = 2 ∧ R (some (vi 2)) h'))) : WM lim d j_La_subtreeWeight [vr (some c), vi x1_, vr (some o)] h R X :=
  WP.run [] (k := k_La_subtreeWeight) (hh := [(0, 9, 12, 3), (0, 9, 15, 2)]) rfl rfl 1000 0 ⟨all1.mpr q.1, q.2.1, WM.mono (fun v h1 z => onI_m (fun y z => ⟨z.1, z.2.1, rfl, z.2.2⟩) z) (fun n h' z => by rcases z with ⟨rfl, z⟩ | ⟨rfl, z⟩ <;> exact fun _ => ⟨rfl, z⟩) q.2.2⟩
set_option maxRecDepth 100000 in
theorem B_La_weight {lim : Nat × Nat} {d c o : Nat} {x1_ : Int32} {h : AHp} {R : RT} {X : XT}
    (q : hk h c = 6 ∧ 0 < d ∧ WM lim (d - 1) j_It_weight [vr (some c), vi x1_] h (fun v h1 => onI v fun y => hk h1 o = 13 ∧ ix 0 (hLen h1 o) ∧ R (some (vi 0)) (sJ h1 o 0 y.toInt64)) (fun n h' => (n = 3 ∧ R (some (vi 1)) h'))) : WM lim d j_La_weight [vr (some c), vi x1_, vr (some o)] h R X :=
  WP.run [] (k := k_La_weight) (hh := [(0, 9, 12, 3)]) rfl rfl 1000 0 ⟨all1.mpr q.1, q.2.1, WM.mono (fun v h1 z => onI_m (fun y z => ⟨z.1, z.2.1, rfl, z.2.2⟩) z) (fun n h' z => by obtain ⟨rfl, z⟩ := z; exact fun _ => ⟨rfl, z⟩) q.2.2⟩
