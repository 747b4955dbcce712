/-! ===== the new leaf ===== -/
theorem lB_iff {M : MT} {a b : Nat} : lessB M a b = true ↔ less M a b := by unfold lessB less; exact decide_eq_true_iff
theorem lB_f {M : MT} {a b : Nat} (h : ¬ less M a b) : lessB M a b = false := by
  cases c : lessB M a b with
  | false => rfl
  | true => exact (h (lB_iff.mp c)).elim
def down (M : MT) (n : Nat) : Tr → Zc → Zc
  | .leaf _, cx => cx
  | .branch r l rr, cx => if lessB M n r = true then down M n l ((true, r, rr) :: cx) else down M n rr ((false, r, l) :: cx)
def hdok (M : MT) (n : Nat) : Zc → Prop
  | [] => True
  | (b, p, _) :: _ => lessB M n p = b
def seat (M : MT) (n : Nat) (u : Int32) : MT := up2 (up2 (up2 (up2 M 5 n (-1)) 6 n (-1)) 7 n u) 8 n 1
def hnM (M : MT) (n : Nat) : Zc → MT
  | [] => up2 (seat M n (-1)) 0 9 (nI n)
  | (true, p, _) :: _ => up2 (seat M n (nI p)) 5 p (nI n)
  | (false, p, _) :: _ => up2 (seat M n (nI p)) 6 p (nI n)
theorem hnM_nil {M : MT} {n : Nat} : hnM M n [] = up2 (seat M n (-1)) 0 9 (nI n) := rfl
theorem hnM_t {M : MT} {n p : Nat} {s : Tr} {cx : Zc} : hnM M n ((true, p, s) :: cx) = up2 (seat M n (nI p)) 5 p (nI n) := rfl
theorem hnM_f {M : MT} {n p : Nat} {s : Tr} {cx : Zc} : hnM M n ((false, p, s) :: cx) = up2 (seat M n (nI p)) 6 p (nI n) := rfl
theorem down_b {M : MT} {n r : Nat} {l rr : Tr} {cx : Zc} : down M n (.branch r l rr) cx = if lessB M n r = true then down M n l ((true, r, rr) :: cx) else down M n rr ((false, r, l) :: cx) := rfl
theorem down_plug {M : MT} {n : Nat} : ∀ (t : Tr) (cx : Zc), plug (.leaf ()) (down M n t cx) = plug t cx := by
  intro t
  induction t with
  | leaf u => intro cx; cases u; rfl
  | branch r l rr hl hr =>
    intro cx
    show plug _ (if _ then _ else _) = _
    split
    · exact hl _
    · exact hr _
theorem down_len {M : MT} {n : Nat} : ∀ (t : Tr) (cx : Zc), (down M n t cx).length ≤ tht t + cx.length := by
  intro t
  induction t with
  | leaf u => intro cx; show cx.length ≤ 0 + cx.length; omega
  | branch r l rr hl hr =>
    intro cx
    show (if _ then _ else _ : Zc).length ≤ 1 + max (tht l) (tht rr) + cx.length
    split
    · have := hl ((true, r, rr) :: cx); rw [List.length_cons] at this; omega
    · have := hr ((false, r, l) :: cx); rw [List.length_cons] at this; omega
theorem down_RB {M : MT} {n : Nat} {r0 : Nat → Bool} : ∀ (t : Tr) (cx : Zc) (h : Nat), RB r0 t h → RBc r0 cx h → (isRedT r0 t = true → hdBlack r0 cx) → RBc r0 (down M n t cx) 0 := by
  intro t
  induction t with
  | leaf u => intro cx h e q _; have e : h = 0 := e; subst e; exact q
  | branch r l rr hl hr =>
    intro cx h e q c
    show RBc r0 (if _ then _ else _) 0
    rcases e with ⟨a1, a2, a3, a4, a5⟩ | ⟨a1, j, rfl, a4, a5⟩
    · split
      · exact hl _ h a4 (Or.inl ⟨a1, a3, a5, c a1, q⟩) (fun x => by rw [a2] at x; cases x)
      · exact hr _ h a5 (Or.inl ⟨a1, a2, a4, c a1, q⟩) (fun x => by rw [a3] at x; cases x)
    · split
      · exact hl _ j a4 (Or.inr ⟨a1, a5, q⟩) (fun _ => a1)
      · exact hr _ j a5 (Or.inr ⟨a1, a4, q⟩) (fun _ => a1)
theorem down_ord {M : MT} {n : Nat} : ∀ (t : Tr) (cx : Zc), (ino t).Pairwise (less M) → n ∉ ino t → (∀ x ∈ lfs cx, less M x n) → (∀ x ∈ rgs cx, less M n x) → (∀ x ∈ lfs (down M n t cx), less M x n) ∧ (∀ x ∈ rgs (down M n t cx), less M n x) := by
  intro t
  induction t with
  | leaf u => intro cx _ _ h1 h2; exact ⟨h1, h2⟩
  | branch r l rr hl hr =>
    intro cx hp hn h1 h2
    rw [ino_b, List.pairwise_append] at hp
    obtain ⟨p1, p2, p3⟩ := hp
    rw [List.pairwise_cons] at p2
    obtain ⟨p2, p4⟩ := p2
    have hn1 : n ∉ ino l := fun c => hn (List.mem_append_left _ c)
    have hn2 : n ∉ ino rr := fun c => hn (List.mem_append_right _ (List.mem_cons_of_mem _ c))
    have hn3 : n ≠ r := fun c => hn (c ▸ List.mem_append_right _ List.mem_cons_self)
    rw [down_b]
    by_cases c : lessB M n r = true
    · rw [if_pos c]
      have c' := lB_iff.mp c
      refine hl _ p1 hn1 h1 (fun x hx => ?_)
      rcases List.mem_cons.mp hx with rfl | hx
      · exact c'
      · rcases List.mem_append.mp hx with hx | hx
        · exact less_trans c' (p2 x hx)
        · exact h2 x hx
    · rw [if_neg c]
      have c' : less M r n := less_tri (fun h => c (lB_iff.mpr h)) hn3
      refine hr _ p4 hn2 (fun x hx => ?_) h2
      rcases List.mem_append.mp hx with hx | hx
      · exact h1 x hx
      · rcases List.mem_append.mp hx with hx | hx
        · exact less_trans (p3 x hx r List.mem_cons_self) c'
        · rw [List.mem_singleton.mp hx]; exact c'
theorem down_hd {M : MT} {n : Nat} : ∀ (t : Tr) (cx : Zc), hdok M n cx → hdok M n (down M n t cx) := by
  intro t
  induction t with
  | leaf u => intro cx h; exact h
  | branch r l rr hl hr =>
    intro cx _
    show hdok M n (if _ then _ else _)
    by_cases c : lessB M n r = true
    · rw [if_pos c]; exact hl _ c
    · rw [if_neg c]; exact hr _ (by cases h : lessB M n r with | false => exact h | true => exact (c h).elim)
theorem less_cong {M M' : MT} {a b : Nat} (h : ∀ i, M' 1 i = M 1 i ∧ M' 2 i = M 2 i) : less M' a b ↔ less M a b := by
  unfold less; rw [(h a).1, (h a).2, (h b).1, (h b).2]
section HANG
variable {z : Nat × Nat} {d : Nat} {M : MT} {Q : Option AV → MT → Prop} {n : Nat}
theorem S_hangs7 (hn : n < 500) (hd : 0 < d) : ∀ (t : Tr) (cx : Zc) (up : Int32), Enc M up t → (∀ x ∈ ino t, x < 500) → hdok M n cx → (∀ x ∈ cids cx, x < 500) → Q none (hnM M n (down M n t cx)) → WK z d j_Mo_hangsNew 7 [some (vr (some 0)), some (vi (nI n)), some (vi (rootOf t)), some (vi (upOf cx))] [] M Q := by
  have xn : ix (nI n) 500 := ix_nI hn (by decide)
  intro t
  induction t with
  | leaf u =>
    intro cx up _ _ hk hb q
    refine M_hangsNew_7 ?_
    rw [if_pos (show rootOf (.leaf u) = (-1 : Int32) from rfl), nI_clamp (by omega)]
    refine ⟨xn, xn, fun M1 e1 => ⟨xn, xn, fun M2 e2 => ?_⟩⟩
    have e3 : M2 = seat M n (upOf cx) := by rw [e2, e1]; rfl
    have q : Q none (hnM M n cx) := q
    cases cx with
    | nil => rw [if_pos (show upOf [] = (-1 : Int32) from rfl), e3]; exact q
    | cons f cx =>
      obtain ⟨b, p, s⟩ := f
      have hp : p < 500 := hb p List.mem_cons_self
      have hu : upOf ((b, p, s) :: cx) = nI p := rfl
      have hs : ∀ i, M2 1 i = M 1 i ∧ M2 2 i = M 2 i := fun i => by
        rw [e3]; unfold seat
        exact ⟨by rw [up2_ne (by omega), up2_ne (by omega), up2_ne (by omega), up2_ne (by omega)], by rw [up2_ne (by omega), up2_ne (by omega), up2_ne (by omega), up2_ne (by omega)]⟩
      have hk : lessB M n p = b := hk
      rw [hu] at e3 ⊢
      rw [if_neg (nI_m1 (by omega)), nI_clamp (by omega)]
      refine ⟨hd, S_isLess hn hp (fun h => onI_1 ⟨ix_nI hp (by decide), ?_⟩) (fun h => onI_0 ⟨ix_nI hp (by decide), ?_⟩)⟩
      · rw [less_cong hs, ← lB_iff, hk] at h; subst h; rw [e3]; exact q
      · rw [less_cong hs] at h; rw [lB_f h] at hk; subst hk; rw [e3]; exact q
  | branch r l rr hl hr =>
    intro cx up e hb hk hc q
    obtain ⟨e1, e2, e3, e4, e5⟩ := e
    have hr5 : r < 500 := hb r (List.mem_append_right _ List.mem_cons_self)
    have bl : ∀ x ∈ ino l, x < 500 := fun x h => hb x (List.mem_append_left _ h)
    have br : ∀ x ∈ ino rr, x < 500 := fun x h => hb x (List.mem_append_right _ (List.mem_cons_of_mem _ h))
    have q : Q none (hnM M n (if lessB M n r = true then down M n l ((true, r, rr) :: cx) else down M n rr ((false, r, l) :: cx))) := q
    refine M_hangsNew_7 ?_
    have hroot : rootOf (.branch r l rr) = nI r := rfl
    rw [hroot, if_neg (nI_m1 (by omega)), nI_clamp (by omega)]
    refine ⟨hd, S_isLess hn hr5 (fun h => onI_1 ⟨ix_nI hr5 (by decide), ?_⟩) (fun h => onI_0 ⟨ix_nI hr5 (by decide), ?_⟩)⟩
    · rw [if_pos (lB_iff.mpr h)] at q
      rw [e2]
      refine hl ((true, r, rr) :: cx) _ e4 bl (lB_iff.mpr h) (fun x hx => ?_) q
      rcases List.mem_cons.mp hx with rfl | hx
      · exact hr5
      · exact (List.mem_append.mp hx).elim (br x) (hc x)
    · rw [if_neg (by rw [lB_f h]; decide)] at q
      rw [e3]
      refine hr ((false, r, l) :: cx) _ e5 br (lB_f h) (fun x hx => ?_) q
      rcases List.mem_cons.mp hx with rfl | hx
      · exact hr5
      · exact (List.mem_append.mp hx).elim (bl x) (hc x)
theorem S_hangsNew (hn : n < 500) (hd : 0 < d) {T : Tr} (e : EncZ M T []) (hb : ∀ x ∈ ino T, x < 500) (q : Q none (hnM M n (down M n T []))) : WQ z d j_Mo_hangsNew [vr (some 0), vi (nI n)] M Q := by
  refine M_hangsNew_0 ?_
  rw [show M 0 9 = rootOf T from e.2]
  exact S_hangs7 hn hd T [] (-1) e.1 hb trivial (fun x hx => by cases hx) q
theorem seat_ne {u : Int32} {k i : Nat} (h : i ≠ n ∨ (k ≠ 5 ∧ k ≠ 6 ∧ k ≠ 7 ∧ k ≠ 8)) : seat M n u k i = M k i := by
  unfold seat; rw [up2_ne (by omega), up2_ne (by omega), up2_ne (by omega), up2_ne (by omega)]
theorem seat_5 {u : Int32} : seat M n u 5 n = -1 := by unfold seat; rw [up2_ne (by omega), up2_ne (by omega), up2_ne (by omega), up2_at]
theorem seat_6 {u : Int32} : seat M n u 6 n = -1 := by unfold seat; rw [up2_ne (by omega), up2_ne (by omega), up2_at]
theorem seat_7 {u : Int32} : seat M n u 7 n = u := by unfold seat; rw [up2_ne (by omega), up2_at]
theorem seat_8 {u : Int32} : seat M n u 8 n = 1 := by unfold seat; rw [up2_at]
theorem hnM_8 {cx : Zc} {i : Nat} : hnM M n cx 8 i = if i = n then 1 else M 8 i := by
  have hs : ∀ u, seat M n u 8 i = if i = n then 1 else M 8 i := by
    intro u
    split
    · rename_i c; rw [c]; exact seat_8
    · rename_i c; exact seat_ne (Or.inl c)
  cases cx with
  | nil => rw [hnM_nil]; rw [up2_ne (by omega)]; exact hs _
  | cons f cx =>
    obtain ⟨b, p, s⟩ := f
    cases b with
    | true => rw [hnM_t]; rw [up2_ne (by omega)]; exact hs _
    | false => rw [hnM_f]; rw [up2_ne (by omega)]; exact hs _
theorem hnM_o {cx : Zc} {k i : Nat} (h : offT k i) : hnM M n cx k i = M k i := by
  obtain ⟨h5, h6, h7, h8, h0⟩ := h
  cases cx with
  | nil => rw [hnM_nil]; rw [up2_ne h0]; exact seat_ne (Or.inr ⟨h5, h6, h7, h8⟩)
  | cons f cx =>
    obtain ⟨b, p, s⟩ := f
    cases b with
    | true => rw [hnM_t]; rw [up2_ne (by omega)]; exact seat_ne (Or.inr ⟨h5, h6, h7, h8⟩)
    | false => rw [hnM_f]; rw [up2_ne (by omega)]; exact seat_ne (Or.inr ⟨h5, h6, h7, h8⟩)
theorem hn_enc {cx : Zc} (e : EncC M (-1) cx) (hd : (cids cx).Nodup) (hn : n ∉ cids cx) : EncZ (hnM M n cx) (.branch n (.leaf ()) (.leaf ())) cx := by
  cases cx with
  | nil =>
    refine ⟨⟨?_, ?_, ?_, trivial, trivial⟩, ?_⟩
    · rw [hnM_nil]; rw [up2_ne (by omega)]; exact seat_7
    · rw [hnM_nil]; rw [up2_ne (by omega)]; exact seat_5
    · rw [hnM_nil]; rw [up2_ne (by omega)]; exact seat_6
    · rw [hnM_nil]; exact up2_at
  | cons f cx =>
    obtain ⟨b, p, s⟩ := f
    have hnp : ¬ n = p := fun c => hn (c ▸ List.mem_cons_self)
    have hd' : p ∉ ino s ++ cids cx := (List.nodup_cons.mp hd).1
    have hqs : ∀ x ∈ ino s, ¬ x = p ∧ ¬ x = n := fun x hx => ⟨fun c => hd' (List.mem_append_left _ (c ▸ hx)), fun c => hn (List.mem_cons_of_mem _ (List.mem_append_left _ (c ▸ hx)))⟩
    have hqc : ∀ x ∈ cids cx, ¬ x = p ∧ ¬ x = n := fun x hx => ⟨fun c => hd' (List.mem_append_right _ (c ▸ hx)), fun c => hn (List.mem_cons_of_mem _ (List.mem_append_right _ (c ▸ hx)))⟩
    cases b with
    | true =>
      obtain ⟨a, b, c, d, f⟩ := e
      rw [hnM_t]
      have ho : ∀ x, ¬ x = p ∧ ¬ x = n → M 5 x = up2 (seat M n (nI p)) 5 p (nI n) 5 x ∧ M 6 x = up2 (seat M n (nI p)) 5 p (nI n) 6 x ∧ M 7 x = up2 (seat M n (nI p)) 5 p (nI n) 7 x := fun x hx =>
        ⟨by rw [up2_ne (by omega), seat_ne (Or.inl hx.2)], by rw [up2_ne (by omega), seat_ne (Or.inl hx.2)], by rw [up2_ne (by omega), seat_ne (Or.inl hx.2)]⟩
      refine ⟨⟨?_, ?_, ?_, trivial, trivial⟩, ?_, up2_at, ?_, Enc_congr (fun x hx => ho x (hqs x hx)) d, EncC_congr (fun x hx => ho x (hqc x hx)) ?_ f⟩
      · rw [up2_ne (by omega)]; exact seat_7
      · rw [up2_ne (by omega)]; exact seat_5
      · rw [up2_ne (by omega)]; exact seat_6
      · rw [up2_ne (by omega), seat_ne (Or.inl (Ne.symm hnp))]; exact a
      · rw [up2_ne (by omega), seat_ne (Or.inl (Ne.symm hnp))]; exact c
      · rw [up2_ne (by omega), seat_ne (Or.inr (by omega))]
    | false =>
      obtain ⟨a, b, c, d, f⟩ := e
      rw [hnM_f]
      have ho : ∀ x, ¬ x = p ∧ ¬ x = n → M 5 x = up2 (seat M n (nI p)) 6 p (nI n) 5 x ∧ M 6 x = up2 (seat M n (nI p)) 6 p (nI n) 6 x ∧ M 7 x = up2 (seat M n (nI p)) 6 p (nI n) 7 x := fun x hx =>
        ⟨by rw [up2_ne (by omega), seat_ne (Or.inl hx.2)], by rw [up2_ne (by omega), seat_ne (Or.inl hx.2)], by rw [up2_ne (by omega), seat_ne (Or.inl hx.2)]⟩
      refine ⟨⟨?_, ?_, ?_, trivial, trivial⟩, ?_, up2_at, ?_, Enc_congr (fun x hx => ho x (hqs x hx)) d, EncC_congr (fun x hx => ho x (hqc x hx)) ?_ f⟩
      · rw [up2_ne (by omega)]; exact seat_7
      · rw [up2_ne (by omega)]; exact seat_5
      · rw [up2_ne (by omega)]; exact seat_6
      · rw [up2_ne (by omega), seat_ne (Or.inl (Ne.symm hnp))]; exact a
      · rw [up2_ne (by omega), seat_ne (Or.inl (Ne.symm hnp))]; exact c
      · rw [up2_ne (by omega), seat_ne (Or.inr (by omega))]
/-- the whole of it: the new leaf in a tree, then ready to be mended -/
theorem hn_zp {T : Tr} {L : List Nat} (F : FinT M T L) (hd : L.Nodup) (hn : n ∉ L) (hs : L.Pairwise (less M)) :
    Zp (hnM M n (down M n T [])) n (down M n T []) (lfs (down M n T []) ++ (n :: rgs (down M n T []))) ∧ L = lfs (down M n T []) ++ rgs (down M n T []) ∧ (lfs (down M n T []) ++ (n :: rgs (down M n T []))).Pairwise (less M) ∧ (lfs (down M n T []) ++ (n :: rgs (down M n T []))).Nodup := by
  obtain ⟨e, hi, ⟨k, B⟩, hr⟩ := F
  have hc : RBc (rd M) (down M n T []) 0 := down_RB T [] k B trivial (fun c => by rw [hr] at c; cases c)
  have ho := down_ord (M := M) (n := n) T [] (by rw [hi]; exact hs) (by rw [hi]; exact hn) (fun x hx => by cases hx) (fun x hx => by cases hx)
  have hp := down_plug (M := M) (n := n) T []
  generalize down M n T [] = cx at hc ho hp ⊢
  have hp : plug (.leaf ()) cx = T := hp
  have hL : L = lfs cx ++ rgs cx := by rw [← hi, ← hp, ino_plug]; rfl
  have hperm : L.Perm (cids cx) := by rw [← hi, ← hp]; exact plug_perm cx (.leaf ())
  have hdc : (cids cx).Nodup := hperm.nodup_iff.mp hd
  have hnc : n ∉ cids cx := fun c => hn (hperm.mem_iff.mpr c)
  have e' : EncZ M (.leaf ()) cx := EncZ_plug.mpr (by rw [hp]; exact e)
  have h8 : ∀ i, i ≠ n → rd M i = rd (hnM M n cx) i := fun i h => rd_eq (by rw [hnM_8, if_neg h])
  refine ⟨⟨.leaf (), .leaf (), 0, hn_enc e'.2 hdc hnc, ?_, ?_, rfl, rfl, rfl, rfl, RBc_congr (fun i hi => h8 i (fun c => hnc (c ▸ hi))) hc⟩, hL, ?_, ?_⟩
  · rw [ino_plug]; rfl
  · exact rd_t (by rw [hnM_8, if_pos rfl]; decide)
  · rw [hL, List.pairwise_append] at hs
    rw [List.pairwise_append, List.pairwise_cons]
    refine ⟨hs.1, ⟨ho.2, hs.2.1⟩, fun a ha b hb => ?_⟩
    rcases List.mem_cons.mp hb with rfl | hb
    · exact ho.1 a ha
    · exact hs.2.2 a ha b hb
  · have : (lfs cx ++ n :: rgs cx).Perm (n :: (lfs cx ++ rgs cx)) := List.perm_middle
    rw [this.nodup_iff, List.nodup_cons, ← hL]
    exact ⟨hn, hd⟩
end HANG
