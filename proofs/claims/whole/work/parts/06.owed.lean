theorem pc_upE {c t : Nat → Int32} {k : Nat} {x : Int32} (E : ∀ q, q < 48 → c q = t q) : ∀ q, q < 48 → upd c k x q = upd t k x q := by
  intro q hq
  unfold upd
  split
  · rfl
  · exact E q hq
def i_Rel (k : Nat) (u : SX) (v : SY) : Prop :=
  ∃ (n m : Nat) (t p c : Nat → Int32), u = (nI n, nI m, t, p) ∧ v = (nI n, nI m, c) ∧ n ≤ 48 ∧ m ≤ 12 ∧ (∀ i, i < 48 → c i = t i) ∧ ∀ i, i < 12 → c (48 + i) = p i
theorem i_up {k : Nat} {u : SX} {v : SY} (h : i_Rel k u v) : i_Rel (k + 3) u v := h
theorem i_vc0 : wpX_init (fun u => wpY_init (fun v => i_Rel 0 u v)) :=
  ⟨0, 0, fun _ => 0, fun _ => 0, fun _ => 0, rfl, rfl, Nat.zero_le 48, Nat.zero_le 12, fun _ _ => rfl, fun _ _ => rfl⟩
theorem i_vc_text {k : Nat} {u : SX} {v : SY} (I : i_Rel k u v) (hk : k + 3 ≤ 1536) (v1 : Int32) : wpX_text (fun r u' => wpY_text (fun r' v' => r' = r ∧ i_Rel (k + 3) u' v') v v1) u v1 := by
  obtain ⟨n, m, t, p, c, rfl, rfl, hn, hm, E1, E2⟩ := I
  have J : i_Rel (k + 3) (nI n, nI m, t, p) (nI n, nI m, c) := ⟨n, m, t, p, c, rfl, rfl, hn, hm, E1, E2⟩
  unfold wpX_text
  dsimp only
  refine xk_tok (fun g => ?_) (fun g => ?_)
  · refine br_f (by decide) (pk_lt n 48 (fun l => And.intro (vp_in_nI l (by omega)) (nm_e (nm_r (nI_1 n) ?_))) (fun l => ?_))
    · unfold wpY_text
      dsimp only
      refine yk_tok (fun _ => br_f (by decide) (pk_eq n 48 (fun e => absurd e (by omega)) (fun e => And.intro (vp_in_nI (by omega) (by omega)) (nm_e (nm_r (nI_1 n) ⟨rfl, n + 1, m, _, p, _, rfl, rfl, by omega, hm, ?_, ?_⟩))))) (fun z => absurd z g)
      · exact pc_upE E1
      · intro i hi
        rw [nI_clamp (by omega), pk_un (by omega)]; exact E2 i hi
    · unfold wpY_text
      dsimp only
      exact yk_tok (fun _ => br_f (by decide) (pk_eq n 48 (fun e => ⟨rfl, J⟩) (fun e => absurd (by omega) e))) (fun z => absurd z g)
  · refine br_t rfl ?_
    unfold wpY_text
    dsimp only
    exact yk_tok (fun z => absurd g z) (fun _ => br_t rfl ⟨rfl, J⟩)
theorem i_vc_change {k : Nat} {u : SX} {v : SY} (I : i_Rel k u v) (hk : k + 3 ≤ 1536) (v1 : Int32) (v2 : Int32) : wpX_change (fun r u' => wpY_change (fun r' v' => r' = r ∧ i_Rel (k + 3) u' v') v v1 v2) u v1 v2 := by
  obtain ⟨n, m, t, p, c, rfl, rfl, hn, hm, E1, E2⟩ := I
  have J : i_Rel (k + 3) (nI n, nI m, t, p) (nI n, nI m, c) := ⟨n, m, t, p, c, rfl, rfl, hn, hm, E1, E2⟩
  unfold wpX_change
  dsimp only
  rcases pk_ix v1 (n := n) (by omega) with a | a | ⟨i, hi, rfl⟩
  · refine xk_out (Or.inl a) (br_t rfl ?_)
    unfold wpY_change
    dsimp only
    exact yk_out (Or.inl a) (br_t rfl ⟨rfl, J⟩)
  · refine xk_out (Or.inr a) (br_t rfl ?_)
    unfold wpY_change
    dsimp only
    exact yk_out (Or.inr a) (br_t rfl ⟨rfl, J⟩)
  · refine xk_in hn hi (br_f (by decide) (xk_tok (fun g => br_f (by decide) ?_) (fun g => br_t rfl ?_)))
    · refine And.intro (vp_in_nI (by omega) (by omega)) (nm_e (And.intro (vp_in_nI (by omega) (by omega)) (nm_e ?_)))
      unfold wpY_change
      dsimp only
      refine yk_inT hn hi (br_f (by decide) (yk_tok (fun _ => br_f (by decide) (And.intro (vp_in_nI (by omega) (by omega)) (nm_e (And.intro (vp_in_nI (by omega) (by omega)) (nm_e ⟨?_, n, m, _, p, _, rfl, rfl, hn, hm, pc_upE E1, ?_⟩))))) (fun z => absurd z g)))
      · rw [nI_clamp (by omega)]; exact E1 i (by omega)
      · intro q hq
        rw [nI_clamp (by omega), pk_un (by omega)]; exact E2 q hq
    · unfold wpY_change
      dsimp only
      exact yk_inT hn hi (br_f (by decide) (yk_tok (fun z => absurd g z) (fun _ => br_t rfl ⟨rfl, J⟩)))
theorem i_vc_pattern {k : Nat} {u : SX} {v : SY} (I : i_Rel k u v) (hk : k + 3 ≤ 1536) (v1 : Int32) : wpX_pattern (fun r u' => wpY_pattern (fun r' v' => r' = r ∧ i_Rel (k + 3) u' v') v v1) u v1 := by
  obtain ⟨n, m, t, p, c, rfl, rfl, hn, hm, E1, E2⟩ := I
  have J : i_Rel (k + 3) (nI n, nI m, t, p) (nI n, nI m, c) := ⟨n, m, t, p, c, rfl, rfl, hn, hm, E1, E2⟩
  unfold wpX_pattern
  dsimp only
  refine xk_tok (fun g => ?_) (fun g => ?_)
  · refine br_f (by decide) (pk_lt m 12 (fun l => And.intro (vp_in_nI l (by omega)) (nm_e (nm_r (nI_1 m) ?_))) (fun l => ?_))
    · unfold wpY_pattern
      dsimp only
      have d2 : ((48 : Int32) + nI m).toNatClampNeg = 48 + m := pk_cl (48 + m) (nI_add 48 m)
      refine yk_tok (fun _ => br_f (by decide) (pk_eq m 12 (fun e => absurd e (by omega)) (fun e => And.intro (pk_in (48 + m) 60 (by omega) (nI_add 48 m)) (nm_e (nm_r (nI_1 m) ⟨rfl, n, m + 1, t, _, _, rfl, rfl, hn, by omega, ?_, ?_⟩))))) (fun z => absurd z g)
      · intro i hi
        rw [d2, pk_un (by omega)]; exact E1 i hi
      · intro i hi
        rw [d2, nI_clamp (by omega)]
        by_cases e : i = m
        · subst e
          rw [pk_us, pk_us]
        · rw [pk_un (by omega), pk_un e]; exact E2 i hi
    · unfold wpY_pattern
      dsimp only
      exact yk_tok (fun _ => br_f (by decide) (pk_eq m 12 (fun e => ⟨rfl, J⟩) (fun e => absurd (by omega) e))) (fun z => absurd z g)
  · refine br_t rfl ?_
    unfold wpY_pattern
    dsimp only
    exact yk_tok (fun z => absurd g z) (fun _ => br_t rfl ⟨rfl, J⟩)
theorem i_vc_patternFrom {k : Nat} {u : SX} {v : SY} (I : i_Rel k u v) (hk : k + 3 ≤ 1536) (v1 : Int32) (v2 : Int32) : wpX_patternFrom (fun r u' => wpY_patternFrom (fun r' v' => r' = r ∧ i_Rel (k + 3) u' v') v v1 v2) u v1 v2 := by
  obtain ⟨n, m, t, p, c, rfl, rfl, hn, hm, E1, E2⟩ := I
  have J : i_Rel (k + 3) (nI n, nI m, t, p) (nI n, nI m, c) := ⟨n, m, t, p, c, rfl, rfl, hn, hm, E1, E2⟩
  unfold wpX_patternFrom wpY_patternFrom
  dsimp only
  by_cases a : v2 < 1
  · exact br_t a (br_t a ⟨rfl, J⟩)
  · refine br_f a ?_
    by_cases b : v2 ≤ 12
    · refine br_t b ?_
      have b' : ¬ 12 < v2 := Int32.not_lt.mpr b
      by_cases g : v1 < 0
      · exact br_t g (br_f a (br_f b' (br_t g ⟨rfl, J⟩)))
      · refine br_f g ?_
        by_cases f : v1 ≤ nI n - v2
        · obtain ⟨e, he, rfl⟩ := nI_of (x := v2) (fun z => a (Int32.lt_trans z (by decide)))
          obtain ⟨i, hi, rfl⟩ := nI_of g
          have e12 : e ≤ 12 := (nI_leI (b := 12) he (by omega)).mp b
          have hin : i + e ≤ n := (pc_sle hi (by omega) (by omega)).mp f
          refine br_t f (xp_loop (by omega) e12 (fun p' h1 h2 => br_f a (br_f b' (br_f g (br_t f (yp_loop (by omega) e12 (fun c' g1 g2 g3 => ⟨rfl, n, e, t, p', c', rfl, rfl, hn, e12, fun q hq => ?_, fun q hq => ?_⟩)))))))
          · rw [g1 q hq]; exact E1 q hq
          · rcases Nat.lt_or_ge q e with z | z
            · rw [g2 q z, h1 q z]; exact E1 _ (by omega)
            · rw [g3 q z, h2 q z]; exact E2 q hq
        · exact br_f f (br_f a (br_f b' (br_f g (br_f f ⟨rfl, J⟩))))
    · exact br_f b (br_f a (br_t (Int32.not_le.mp b) ⟨rfl, J⟩))
theorem i_vc_clearPattern {k : Nat} {u : SX} {v : SY} (I : i_Rel k u v) (hk : k + 3 ≤ 1536) : wpX_clearPattern (fun u' => wpY_clearPattern (fun v' => i_Rel (k + 3) u' v') v) u := by
  obtain ⟨n, m, t, p, c, rfl, rfl, hn, hm, E1, E2⟩ := I
  exact ⟨n, 0, t, p, c, rfl, rfl, hn, Nat.zero_le 12, E1, E2⟩
theorem i_vc_clearText {k : Nat} {u : SX} {v : SY} (I : i_Rel k u v) (hk : k + 3 ≤ 1536) : wpX_clearText (fun u' => wpY_clearText (fun v' => i_Rel (k + 3) u' v') v) u := by
  obtain ⟨n, m, t, p, c, rfl, rfl, hn, hm, E1, E2⟩ := I
  exact ⟨0, m, t, p, c, rfl, rfl, Nat.zero_le 48, hm, E1, E2⟩
theorem i_vc_matches {k : Nat} {u : SX} {v : SY} (I : i_Rel k u v) (hk : k + 3 ≤ 1536) : wpX_matches (fun r => wpY_matches (fun r' => r' = r ∧ i_Rel (k + 3) u v) v) u := by
  obtain ⟨n, m, t, p, c, rfl, rfl, hn, hm, E1, E2⟩ := I
  have J : i_Rel (k + 3) (nI n, nI m, t, p) (nI n, nI m, c) := ⟨n, m, t, p, c, rfl, rfl, hn, hm, E1, E2⟩
  obtain ⟨r, hX, hY⟩ := lm_mat hn hm E1 E2 n 0 0 (Nat.zero_add n)
  exact ⟨_, hX _ ⟨_, hY _ ⟨rfl, J⟩⟩⟩
theorem i_vc_matchAt {k : Nat} {u : SX} {v : SY} (I : i_Rel k u v) (hk : k + 3 ≤ 1536) (v1 : Int32) : wpX_matchAt (fun r => wpY_matchAt (fun r' => r' = r ∧ i_Rel (k + 3) u v) v v1) u v1 := by
  obtain ⟨n, m, t, p, c, rfl, rfl, hn, hm, E1, E2⟩ := I
  have J : i_Rel (k + 3) (nI n, nI m, t, p) (nI n, nI m, c) := ⟨n, m, t, p, c, rfl, rfl, hn, hm, E1, E2⟩
  obtain ⟨r, _, hX, hY⟩ := lm_at v1 hn hm E1 E2 n 0 0 (Nat.zero_add n)
  exact ⟨_, hX _ ⟨_, hY _ ⟨rfl, J⟩⟩⟩
theorem i_vc_renamed {k : Nat} {u : SX} {v : SY} (I : i_Rel k u v) (hk : k + 3 ≤ 1536) (v1 : Int32) (v2 : Int32) : wpX_renamed (fun r => wpY_renamed (fun r' => r' = r ∧ i_Rel (k + 3) u v) v v1 v2) u v1 v2 := by
  obtain ⟨n, m, t, p, c, rfl, rfl, hn, hm, E1, E2⟩ := I
  have J : i_Rel (k + 3) (nI n, nI m, t, p) (nI n, nI m, c) := ⟨n, m, t, p, c, rfl, rfl, hn, hm, E1, E2⟩
  obtain ⟨r, hr, hX, hY⟩ := lm_at v1 hn hm E1 E2 n 0 0 (Nat.zero_add n)
  have hXm : ∀ post : Int32 → Prop, post r → wpX_matchAt post (nI n, nI m, t, p) v1 := fun post h => ⟨_, hX post h⟩
  have hYm : ∀ post : Int32 → Prop, post r → wpY_matchAt post (nI n, nI m, c) v1 := fun post h => ⟨_, hY post h⟩
  unfold wpX_renamed wpY_renamed
  dsimp only
  unfold wpX_isName
  by_cases a : v2 < 16
  · exact br_t a (br_t rfl (hYm _ (br_c (fun _ => ⟨rfl, J⟩) (fun _ => br_t a ⟨rfl, J⟩))))
  · by_cases b : 31 < v2
    · exact br_f a (br_t b (br_t rfl (hYm _ (br_c (fun _ => ⟨rfl, J⟩) (fun _ => br_f a (br_f (Int32.not_le.mpr b) ⟨rfl, J⟩))))))
    · refine br_f a (br_f b (br_f (by decide) (hXm _ ?_)))
      rcases hr with e | ⟨s, e, hs⟩
      · subst e
        exact br_t rfl (hYm _ (br_t (by decide) ⟨rfl, J⟩))
      · subst e
        obtain ⟨q, gX, gY⟩ := lm_ren (n := nI n) v2 hm (show s + m ≤ 48 by omega) E1 E2 m 0 (Nat.zero_add m)
        exact br_f (pc_n4 (by omega)) ⟨_, gX _ (hYm _ (br_f (nI_pos (by omega)) (br_f a (br_t (Int32.not_lt.mp b) ⟨_, gY _ ⟨rfl, J⟩⟩))))⟩
theorem i_vc_longestClone {k : Nat} {u : SX} {v : SY} (I : i_Rel k u v) (hk : k + 3 ≤ 1536) : wpX_longestClone (fun r => wpY_longestClone (fun r' => r' = r ∧ i_Rel (k + 3) u v) v) u := by
  obtain ⟨n, m, t, p, c, rfl, rfl, hn, hm, E1, E2⟩ := I
  have J : i_Rel (k + 3) (nI n, nI m, t, p) (nI n, nI m, c) := ⟨n, m, t, p, c, rfl, rfl, hn, hm, E1, E2⟩
  refine xl_top hn (fun l hl h => yl_top hn (fun l' hl' h' => ⟨?_, J⟩))
  rw [pc_Wbr hn E1] at h'
  rw [pc_LC_u h' h]
theorem i_vc_cloneFirst {k : Nat} {u : SX} {v : SY} (I : i_Rel k u v) (hk : k + 3 ≤ 1536) : wpX_cloneFirst (fun r => wpY_cloneFirst (fun r' => r' = r ∧ i_Rel (k + 3) u v) v) u := by
  obtain ⟨n, m, t, p, c, rfl, rfl, hn, hm, E1, E2⟩ := I
  have J : i_Rel (k + 3) (nI n, nI m, t, p) (nI n, nI m, c) := ⟨n, m, t, p, c, rfl, rfl, hn, hm, E1, E2⟩
  unfold wpX_cloneFirst wpY_cloneFirst
  dsimp only
  refine xl_top hn (fun l hl h => xk_first hn (by omega) (fun r hr => yl_top hn (fun l' hl' h' => ?_)))
  rw [pc_Wbr hn E1] at h'
  have e := pc_LC_u h' h
  subst e
  refine pk_eq l' 0 (fun z => ⟨?_, J⟩) (fun z => yf_ok hn (by omega) (fun r' hr' => ⟨?_, J⟩))
  · rcases hr with ⟨e, _⟩ | ⟨i, _, ⟨j, w, _⟩, _⟩
    · exact e.symm
    · omega
  · rw [pc_Wbr hn E1] at hr'
    exact pc_FS_u hr (pc_FS_cg (fun i => ⟨fun w => w.elim (fun j wj => ⟨j, by omega, wj⟩), fun w => w.elim (fun j wj => ⟨j, wj.2⟩)⟩) hr')
theorem i_vc_cloneSecond {k : Nat} {u : SX} {v : SY} (I : i_Rel k u v) (hk : k + 3 ≤ 1536) : wpX_cloneSecond (fun r => wpY_cloneSecond (fun r' => r' = r ∧ i_Rel (k + 3) u v) v) u := by
  obtain ⟨n, m, t, p, c, rfl, rfl, hn, hm, E1, E2⟩ := I
  have J : i_Rel (k + 3) (nI n, nI m, t, p) (nI n, nI m, c) := ⟨n, m, t, p, c, rfl, rfl, hn, hm, E1, E2⟩
  unfold wpX_cloneSecond wpY_cloneSecond
  dsimp only
  refine xl_top hn (fun l hl h => xk_second hn (by omega) (fun r hr => yl_top hn (fun l' hl' h' => ?_)))
  rw [pc_Wbr hn E1] at h'
  have e := pc_LC_u h' h
  subst e
  refine pk_eq l' 0 (fun z => ⟨?_, J⟩) (fun z => yf_ok hn (by omega) (fun r1 hr1 => ?_))
  · rcases hr with ⟨e, _⟩ | ⟨i, j, _, ⟨w, _⟩, _⟩
    · exact e.symm
    · omega
  · rw [pc_Wbr hn E1] at hr1
    rcases hr1 with ⟨e1, z1⟩ | ⟨i, e1, ⟨j1, w1⟩, q1⟩
    · rcases h.1 with y | ⟨i, j, w⟩
      · exact absurd y z
      · exact absurd ⟨j, w⟩ (z1 i)
    · have b0 := w1.1
      have b1 := w1.2.1
      subst e1
      refine yt_ok hn (by omega) (by omega) (fun r' hr' => ⟨?_, J⟩)
      rw [pc_Wbr hn E1] at hr'
      rcases hr' with ⟨e2, z2⟩ | ⟨j, e2, w2, q2⟩
      · exact absurd w1 (z2 j1)
      · exact pc_S2_u hr (Or.inr ⟨i, j, e2, ⟨by omega, w2⟩, fun j' hj' y => q2 j' hj' y.2, fun i' hi' j' y => q1 i' hi' ⟨j', y.2⟩⟩)
theorem i_vc_kinds {k : Nat} {u : SX} {v : SY} (I : i_Rel k u v) (hk : k + 3 ≤ 1536) (v1 : Int32) : wpX_kinds (fun r => wpY_kinds (fun r' => r' = r ∧ i_Rel (k + 3) u v) v v1) u v1 := by
  obtain ⟨n, m, t, p, c, rfl, rfl, hn, hm, E1, E2⟩ := I
  have J : i_Rel (k + 3) (nI n, nI m, t, p) (nI n, nI m, c) := ⟨n, m, t, p, c, rfl, rfl, hn, hm, E1, E2⟩
  unfold wpX_kinds wpY_kinds
  dsimp only
  by_cases a : v1 < 1
  · exact br_t a (br_t a ⟨rfl, J⟩)
  · by_cases b : v1 ≤ nI n
    · obtain ⟨L, hL, rfl⟩ := nI_of (x := v1) (fun z => a (Int32.lt_trans z (by decide)))
      have hLn : L ≤ n := (nI_leI hL (by omega)).mp b
      obtain ⟨r, hX, hY⟩ := lm_kin (m := nI m) (m' := nI m) (p := p) hn hLn E1 (n + 1 - L) 0 0 (by omega)
      exact br_f a (br_t b ⟨_, hX _ (br_f a (br_t b ⟨_, hY _ ⟨rfl, J⟩⟩))⟩)
    · exact br_f a (br_f b (br_f a (br_f b ⟨rfl, J⟩)))
theorem i_vc_reach {k : Nat} {u : SX} {v : SY} (I : i_Rel k u v) (hk : k + 3 ≤ 1536) (v1 : Int32) (v2 : Int32) : wpX_reach (fun r => wpY_reach (fun r' => r' = r ∧ i_Rel (k + 3) u v) v v1 v2) u v1 v2 := by
  obtain ⟨n, m, t, p, c, rfl, rfl, hn, hm, E1, E2⟩ := I
  have J : i_Rel (k + 3) (nI n, nI m, t, p) (nI n, nI m, c) := ⟨n, m, t, p, c, rfl, rfl, hn, hm, E1, E2⟩
  have Rb : ∀ i j r, pc_R c n i j r → pc_R t n i j r := fun i j r h L =>
    ⟨fun w => ⟨((h L).mp w).1, ((h L).mp w).2.1, (pc_br E1 (by have := ((h L).mp w).1; omega) (by have := ((h L).mp w).2.1; omega)).mp ((h L).mp w).2.2⟩,
     fun w => (h L).mpr ⟨w.1, w.2.1, (pc_br E1 (by have := w.1; omega) (by have := w.2.1; omega)).mpr w.2.2⟩⟩
  unfold wpX_reach wpY_reach
  dsimp only
  by_cases a : v1 < 0 ∨ nI n ≤ v1
  · exact xk_out a (br_t rfl (yk_out a (br_t rfl ⟨rfl, J⟩)))
  · rcases pk_ix v1 (n := n) (by omega) with z | z | ⟨i, hi, rfl⟩
    · exact absurd (Or.inl z) a
    · exact absurd (Or.inr z) a
    · refine xk_in hn hi (br_f (by decide) ?_)
      by_cases b : v2 < 0 ∨ nI n ≤ v2
      · exact xk_out b (br_t rfl (yk_inT hn hi (br_f (by decide) (yk_out b (br_t rfl ⟨rfl, J⟩)))))
      · rcases pk_ix v2 (n := n) (by omega) with z | z | ⟨j, hj, rfl⟩
        · exact absurd (Or.inl z) b
        · exact absurd (Or.inr z) b
        · refine xk_in hn hj (br_f (by decide) (xc_len hn (by omega) (by omega) (fun r hr => ?_)))
          have H : ∀ r', pc_R c n i j r' → nI r' = nI r ∧ i_Rel (k + 3) (nI n, nI m, t, p) (nI n, nI m, c) := fun r' h' => ⟨by rw [pc_R_u (Rb i j r' h') hr], J⟩
          refine yk_inT hn hi (br_f (by decide) (yk_inT hn hj (br_f (by decide) (pk_le i j (fun g => ?_) (fun g => ?_)))))
          · exact nm_r (pk_sub (by omega)) ⟨_, yh_in hn H (n - j) ⟨by omega, by omega, fun L hL w => by have := w.2.1; omega⟩⟩
          · exact nm_r (pk_sub (by omega)) ⟨_, yh_in hn H (n - i) ⟨by omega, by omega, fun L hL w => by have := w.1; omega⟩⟩
