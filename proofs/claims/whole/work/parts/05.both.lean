theorem pc_br {c t : Nat → Int32} {i j L : Nat} (E : ∀ q, q < 48 → c q = t q) (hi : i + L ≤ 48) (hj : j + L ≤ 48) : pc_al c c i j L ↔ pc_al t t i j L :=
  ⟨pc_al_cg (fun q hq => E _ (by omega)) (fun q hq => E _ (by omega)), pc_al_cg (fun q hq => (E _ (by omega)).symm) (fun q hq => (E _ (by omega)).symm)⟩
theorem pc_Wbr {c t : Nat → Int32} {n : Nat} (hn : n ≤ 48) (E : ∀ q, q < 48 → c q = t q) : pc_W c n = pc_W t n := by
  funext i j L
  apply propext
  constructor
  · intro w
    have w0 := w.1
    have w1 := w.2.1
    exact ⟨w0, w1, (pc_br E (by omega) (by omega)).mp w.2.2⟩
  · intro w
    have w0 := w.1
    have w1 := w.2.1
    exact ⟨w0, w1, (pc_br E (by omega) (by omega)).mpr w.2.2⟩
theorem pc_Mbr {c t p : Nat → Int32} {n m i : Nat} (hn : n ≤ 48) (hm : m ≤ 12) (E1 : ∀ q, q < 48 → c q = t q) (E2 : ∀ q, q < 12 → c (48 + q) = p q) : pc_M c c n m 48 i ↔ pc_M p t n m 0 i := by
  have e : ∀ q, q < m → c (48 + q) = p (0 + q) := fun q hq => by rw [Nat.zero_add]; exact E2 q (by omega)
  constructor
  · intro w
    have w1 := w.2.1
    exact ⟨w.1, w1, pc_al_cg e (fun q hq => E1 _ (by omega)) w.2.2⟩
  · intro w
    have w1 := w.2.1
    exact ⟨w.1, w1, pc_al_cg (fun q hq => (e q hq).symm) (fun q hq => (E1 _ (by omega)).symm) w.2.2⟩
theorem pc_FS_cg {P Q : Nat → Prop} {r : Int32} (h : ∀ i, P i ↔ Q i) (hr : pc_FS P r) : pc_FS Q r := by
  have e : P = Q := funext fun i => propext (h i)
  rw [← e]; exact hr
theorem xk_tok {post : Int32 → Prop} {x : Int32} (h1 : ¬ (x < 0 ∨ 31 < x) → post 1) (h0 : (x < 0 ∨ 31 < x) → post 0) : wpX_isToken post x :=
  br_c (fun a => h0 (Or.inl a)) (fun a => br_c (fun b => h0 (Or.inr b)) (fun b => h1 (fun z => z.elim a b)))
theorem yk_tok {post : Int32 → Prop} {n m : Int32} {c : Nat → Int32} {x : Int32} (h1 : ¬ (x < 0 ∨ 31 < x) → post 1) (h0 : (x < 0 ∨ 31 < x) → post 0) : wpY_isToken post (n, m, c) x :=
  br_c (fun a => h0 (Or.inl a)) (fun a => br_c (fun b => h0 (Or.inr b)) (fun b => h1 (fun z => z.elim a b)))
theorem xk_in {post : Int32 → Prop} {n i : Nat} {m : Int32} {t p : Nat → Int32} (hn : n ≤ 48) (hi : i < n) (h : post 1) : wpX_isTextIndex post (nI n, m, t, p) (nI i) :=
  br_f (nI_pos (by omega)) (br_f (nI_ge hi (by omega)) h)
theorem yk_inT {post : Int32 → Prop} {n i : Nat} {m : Int32} {c : Nat → Int32} (hn : n ≤ 48) (hi : i < n) (h : post 1) : wpY_inText post (nI n, m, c) (nI i) :=
  br_f (nI_pos (by omega)) (br_f (nI_ge hi (by omega)) h)
theorem xk_out {post : Int32 → Prop} {n m x : Int32} {t p : Nat → Int32} (hx : x < 0 ∨ n ≤ x) (h : post 0) : wpX_isTextIndex post (n, m, t, p) x :=
  br_c (fun _ => h) (fun a => br_t (hx.resolve_left a) h)
theorem yk_out {post : Int32 → Prop} {n m x : Int32} {c : Nat → Int32} (hx : x < 0 ∨ n ≤ x) (h : post 0) : wpY_inText post (n, m, c) x :=
  br_c (fun _ => h) (fun a => br_t (hx.resolve_left a) h)
theorem xp_loop {post : Int32 → SX → Prop} {n m : Int32} {i e : Nat} {t p : Nat → Int32} (hi : i + e ≤ 48) (he : e ≤ 12) (h : ∀ p', (∀ q, q < e → p' q = t (i + q)) → (∀ q, e ≤ q → p' q = p q) → post (nI e) (n, nI e, t, p')) : ∃ f, wX_patternFrom_33 post (nI i) (nI e) n m f 0 t p := by
  have hl : ∀ d k p', k + d = e → ((∀ q, q < k → p' q = t (i + q)) ∧ ∀ q, k ≤ q → p' q = p q) → wX_patternFrom_33 post (nI i) (nI e) n m (d + 1) (nI k) t p' := by
    refine pc_lq (fun f k p' => wX_patternFrom_33 post (nI i) (nI e) n m f (nI k) t p') (fun k p' => (∀ q, q < k → p' q = t (i + q)) ∧ ∀ q, k ≤ q → p' q = p q) e ?_
    intro f k p' hk I cont
    by_cases g : k < e
    · have d1 : (nI i + nI k).toNatClampNeg = i + k := by rw [nI_add]; exact nI_clamp (by omega)
      have d2 : (nI k).toNatClampNeg = k := nI_clamp (by omega)
      have w1 : vp_in (nI i + nI k) 48 := by rw [nI_add]; exact vp_in_nI (by omega) (by omega)
      have w2 : vp_in (nI k) 12 := vp_in_nI (by omega) (by omega)
      refine br_f (nI_ge g (by omega)) (And.intro w1 (And.intro w2 (nm_r (e' := upd p' k (t (i + k))) (by rw [d1, d2]) (nm_r (nI_1 k) (cont g _ ⟨?_, ?_⟩)))))
      · refine lt_s (fun q hq => ?_) pk_us
        rw [pk_un (by omega)]; exact I.1 q hq
      · intro q hq
        rw [pk_un (by omega)]; exact I.2 q (by omega)
    · have ek : k = e := by omega
      subst ek
      exact br_t (nI_le (Nat.le_refl k) (by omega)) (h p' I.1 I.2)
  exact ⟨_, hl e 0 p (Nat.zero_add e) ⟨fun q hq => absurd hq (Nat.not_lt_zero q), fun q _ => rfl⟩⟩
theorem yp_loop {post : Int32 → SY → Prop} {n m : Int32} {i e : Nat} {c : Nat → Int32} (hi : i + e ≤ 48) (he : e ≤ 12) (h : ∀ c', (∀ q, q < 48 → c' q = c q) → (∀ q, q < e → c' (48 + q) = c (i + q)) → (∀ q, e ≤ q → c' (48 + q) = c (48 + q)) → post (nI e) (n, m, c')) : ∃ f, wY_patternFrom_35 post (nI i) (nI e) n m f 0 c := by
  have hl : ∀ d k c', k + d = e → ((∀ q, q < 48 → c' q = c q) ∧ (∀ q, q < k → c' (48 + q) = c (i + q)) ∧ ∀ q, k ≤ q → c' (48 + q) = c (48 + q)) → wY_patternFrom_35 post (nI i) (nI e) n m (d + 1) (nI k) c' := by
    refine pc_lq (fun f k c' => wY_patternFrom_35 post (nI i) (nI e) n m f (nI k) c') (fun k c' => (∀ q, q < 48 → c' q = c q) ∧ (∀ q, q < k → c' (48 + q) = c (i + q)) ∧ ∀ q, k ≤ q → c' (48 + q) = c (48 + q)) e ?_
    intro f k c' hk I cont
    by_cases g : k < e
    · have d1 : (nI i + nI k).toNatClampNeg = i + k := by rw [nI_add]; exact nI_clamp (by omega)
      have d2 : ((48 : Int32) + nI k).toNatClampNeg = 48 + k := pk_cl (48 + k) (nI_add 48 k)
      have w1 : vp_in (nI i + nI k) 60 := by rw [nI_add]; exact vp_in_nI (by omega) (by omega)
      have w2 : vp_in ((48 : Int32) + nI k) 60 := pk_in (48 + k) 60 (by omega) (nI_add 48 k)
      refine br_f (nI_ge g (by omega)) (And.intro w1 (And.intro w2 (nm_r (e' := upd c' (48 + k) (c' (i + k))) (by rw [d1, d2]) (nm_r (nI_1 k) (cont g _ ⟨?_, ?_, ?_⟩)))))
      · intro q hq
        rw [pk_un (by omega)]; exact I.1 q hq
      · refine lt_s (fun q hq => ?_) ?_
        · rw [pk_un (by omega)]; exact I.2.1 q hq
        · rw [pk_us]; exact I.1 _ (by omega)
      · intro q hq
        rw [pk_un (by omega)]; exact I.2.2 q (by omega)
    · have ek : k = e := by omega
      subst ek
      exact br_t (nI_le (Nat.le_refl k) (by omega)) (h c' I.1 I.2.1 I.2.2)
  exact ⟨_, hl e 0 c (Nat.zero_add e) ⟨fun q _ => rfl, fun q hq => absurd hq (Nat.not_lt_zero q), fun q _ => rfl⟩⟩
theorem lm_mat {n m : Nat} {t p c : Nat → Int32} (hn : n ≤ 48) (hm : m ≤ 12) (E1 : ∀ q, q < 48 → c q = t q) (E2 : ∀ q, q < 12 → c (48 + q) = p q) : ∀ d i (x : Int32), i + d = n → ∃ r : Int32, (∀ post : Int32 → Prop, post r → wX_matches_4 post (nI n) (nI m) t p (d + 1) x (nI i)) ∧ (∀ post : Int32 → Prop, post r → wY_matches_4 post (nI n) (nI m) c (d + 1) x (nI i)) := by
  intro d
  induction d with
  | zero =>
    intro i x hi
    exact ⟨x, fun _ h => br_t (nI_le (by omega) (by omega)) h, fun _ h => br_t (nI_le (by omega) (by omega)) h⟩
  | succ d ih =>
    intro i x hi
    have hin : i < n := by omega
    by_cases M : pc_M p t n m 0 i
    · obtain ⟨r, hX, hY⟩ := ih (i + 1) (x + 1) (by omega)
      refine ⟨r, fun post h => br_f (nI_ge hin (by omega)) (xm_at hn hm hin (fun _ => ?_) (fun z => absurd M z)), fun post h => br_f (nI_ge hin (by omega)) (ym_at hn hm hin (fun _ => ?_) (fun z => absurd ((pc_Mbr hn hm E1 E2).mpr M) z))⟩
      · exact br_f (by decide) (nm_e (nm_r (nI_1 i) (hX post h)))
      · exact br_f (by decide) (nm_e (nm_r (nI_1 i) (hY post h)))
    · obtain ⟨r, hX, hY⟩ := ih (i + 1) x (by omega)
      refine ⟨r, fun post h => br_f (nI_ge hin (by omega)) (xm_at hn hm hin (fun z => absurd z M) (fun _ => ?_)), fun post h => br_f (nI_ge hin (by omega)) (ym_at hn hm hin (fun z => absurd ((pc_Mbr hn hm E1 E2).mp z) M) (fun _ => ?_))⟩
      · exact br_t rfl (nm_r (nI_1 i) (hX post h))
      · exact br_t rfl (nm_r (nI_1 i) (hY post h))
theorem lm_at {n m : Nat} {t p c : Nat → Int32} (y : Int32) (hn : n ≤ 48) (hm : m ≤ 12) (E1 : ∀ q, q < 48 → c q = t q) (E2 : ∀ q, q < 12 → c (48 + q) = p q) : ∀ d i (x : Int32), i + d = n → ∃ r : Int32, (r = -4 ∨ ∃ s, r = nI s ∧ s + m ≤ n) ∧ (∀ post : Int32 → Prop, post r → wX_matchAt_4 post y (nI n) (nI m) t p (d + 1) x (nI i)) ∧ (∀ post : Int32 → Prop, post r → wY_matchAt_4 post y (nI n) (nI m) c (d + 1) x (nI i)) := by
  intro d
  induction d with
  | zero =>
    intro i x hi
    exact ⟨-4, Or.inl rfl, fun _ h => br_t (nI_le (by omega) (by omega)) h, fun _ h => br_t (nI_le (by omega) (by omega)) h⟩
  | succ d ih =>
    intro i x hi
    have hin : i < n := by omega
    by_cases M : pc_M p t n m 0 i
    · by_cases g : x = y
      · refine ⟨nI i, Or.inr ⟨i, rfl, M.2.1⟩, fun post h => br_f (nI_ge hin (by omega)) (xm_at hn hm hin (fun _ => ?_) (fun z => absurd M z)), fun post h => br_f (nI_ge hin (by omega)) (ym_at hn hm hin (fun _ => ?_) (fun z => absurd ((pc_Mbr hn hm E1 E2).mpr M) z))⟩
        · exact br_f (by decide) (br_t g h)
        · exact br_f (by decide) (br_t g h)
      · obtain ⟨r, hr, hX, hY⟩ := ih (i + 1) (x + 1) (by omega)
        refine ⟨r, hr, fun post h => br_f (nI_ge hin (by omega)) (xm_at hn hm hin (fun _ => ?_) (fun z => absurd M z)), fun post h => br_f (nI_ge hin (by omega)) (ym_at hn hm hin (fun _ => ?_) (fun z => absurd ((pc_Mbr hn hm E1 E2).mpr M) z))⟩
        · exact br_f (by decide) (br_f g (nm_e (nm_r (nI_1 i) (hX post h))))
        · exact br_f (by decide) (br_f g (nm_e (nm_r (nI_1 i) (hY post h))))
    · obtain ⟨r, hr, hX, hY⟩ := ih (i + 1) x (by omega)
      refine ⟨r, hr, fun post h => br_f (nI_ge hin (by omega)) (xm_at hn hm hin (fun z => absurd z M) (fun _ => ?_)), fun post h => br_f (nI_ge hin (by omega)) (ym_at hn hm hin (fun z => absurd ((pc_Mbr hn hm E1 E2).mp z) M) (fun _ => ?_))⟩
      · exact br_t rfl (nm_r (nI_1 i) (hX post h))
      · exact br_t rfl (nm_r (nI_1 i) (hY post h))
theorem lm_ren {n : Int32} {m s : Nat} {t p c : Nat → Int32} (y : Int32) (hm : m ≤ 12) (hs : s + m ≤ 48) (E1 : ∀ q, q < 48 → c q = t q) (E2 : ∀ q, q < 12 → c (48 + q) = p q) : ∀ d k, k + d = m → ∃ r : Int32, (∀ post : Int32 → Prop, post r → wX_renamed_28 post y (nI s) n (nI m) t p (d + 1) (nI k)) ∧ (∀ post : Int32 → Prop, post r → wY_renamed_28 post y (nI s) n (nI m) c (d + 1) (nI k)) := by
  intro d
  induction d with
  | zero =>
    intro k hk
    exact ⟨-4, fun _ h => br_t (nI_le (by omega) (by omega)) h, fun _ h => br_t (nI_le (by omega) (by omega)) h⟩
  | succ d ih =>
    intro k hk
    have g : k < m := by omega
    have d0 : (nI k).toNatClampNeg = k := nI_clamp (by omega)
    have d1 : (nI s + nI k).toNatClampNeg = s + k := by rw [nI_add]; exact nI_clamp (by omega)
    have d2 : ((48 : Int32) + nI k).toNatClampNeg = 48 + k := pk_cl (48 + k) (nI_add 48 k)
    have v0 : vp_in (nI k) 12 := vp_in_nI (by omega) (by omega)
    have v1 : vp_in (nI s + nI k) 48 := by rw [nI_add]; exact vp_in_nI (by omega) (by omega)
    have v3 : vp_in (nI s + nI k) 60 := by rw [nI_add]; exact vp_in_nI (by omega) (by omega)
    have v2 : vp_in ((48 : Int32) + nI k) 60 := pk_in (48 + k) 60 (by omega) (nI_add 48 k)
    have a1 : c (48 + k) = p k := E2 k (by omega)
    have a2 : c (s + k) = t (s + k) := E1 _ (by omega)
    by_cases z : p k = y
    · refine ⟨t (s + k), fun post h => br_f (nI_ge g (by omega)) (And.intro v0 ?_), fun post h => br_f (nI_ge g (by omega)) (And.intro v2 ?_)⟩
      · rw [d0, d1]; exact br_t z ⟨v1, h⟩
      · rw [d2, d1, a1, a2]; exact br_t z ⟨v3, h⟩
    · obtain ⟨r, hX, hY⟩ := ih (k + 1) (by omega)
      refine ⟨r, fun post h => br_f (nI_ge g (by omega)) (And.intro v0 ?_), fun post h => br_f (nI_ge g (by omega)) (And.intro v2 ?_)⟩
      · rw [d0]; exact br_f z (nm_r (nI_1 k) (hX post h))
      · rw [d2, a1]; exact br_f z (nm_r (nI_1 k) (hY post h))
theorem lm_kin {n L : Nat} {m m' : Int32} {t p c : Nat → Int32} (hn : n ≤ 48) (hL : L ≤ n) (E1 : ∀ q, q < 48 → c q = t q) : ∀ d i (x : Int32), i + d + L = n + 1 → ∃ r : Int32, (∀ post : Int32 → Prop, post r → wX_kinds_19 post (nI L) (nI n) m t p (d + 1) x (nI i)) ∧ (∀ post : Int32 → Prop, post r → wY_kinds_19 post (nI L) (nI n) m' c (d + 1) x (nI i)) := by
  intro d
  induction d with
  | zero =>
    intro i x hi
    refine ⟨x, fun _ h => br_t ((pc_slt (by omega) (by omega) (by omega)).mpr (by omega)) h, fun _ h => br_t ?_ h⟩
    rw [nI_add]; exact nI_lt (by omega) (by omega)
  | succ d ih =>
    intro i x hi
    have g1 : ¬ nI n - nI L < nI i := fun w => by
      have := (pc_slt (by omega) (by omega) (by omega)).mp w
      omega
    have g2 : ¬ nI n < nI i + nI L := by rw [nI_add]; exact nI_nlt (by omega) (by omega)
    have b : (∀ j, j < i → ¬ pc_al c c i j L) ↔ (∀ j, j < i → ¬ pc_al t t j i L) :=
      ⟨fun h j hj w => h j hj ((pc_br E1 (by omega) (by omega)).mpr (pc_al_sy w)), fun h j hj w => h j hj (pc_al_sy ((pc_br E1 (by omega) (by omega)).mp w))⟩
    by_cases z : ∀ j, j < i → ¬ pc_al t t j i L
    · obtain ⟨r, hX, hY⟩ := ih (i + 1) (x + 1) (by omega)
      refine ⟨r, fun post h => br_f g1 (xi_new hn (by omega) (fun _ => ?_) (fun y => absurd z y)), fun post h => br_f g2 (yk_in hn (by omega) (fun _ => ?_) (fun y => absurd (b.mpr z) y))⟩
      · exact br_f (by decide) (nm_e (nm_r (nI_1 i) (hX post h)))
      · exact hY post h
    · obtain ⟨r, hX, hY⟩ := ih (i + 1) x (by omega)
      refine ⟨r, fun post h => br_f g1 (xi_new hn (by omega) (fun y => absurd y z) (fun _ => ?_)), fun post h => br_f g2 (yk_in hn (by omega) (fun y => absurd (b.mp y) z) (fun _ => ?_))⟩
      · exact br_t rfl (nm_r (nI_1 i) (hX post h))
      · exact hY post h
