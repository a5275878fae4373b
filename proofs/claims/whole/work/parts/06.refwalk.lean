theorem sy_has {A : Nat → Nat → Int32} {there value rem num ans homes : Nat → Int32} (R : sm_R A there value rem num ans) {kk : Nat} (hkk : kk < 32) {post : Int32 → Prop} (hp : post (if A (kk % 8) (kk / 8) = 1 then 1 else 0)) : wpY_has post (there, value, rem, num, ans, homes) (nI kk) := by
  obtain ⟨r1, r2, r3⟩ := R.1 kk hkk
  refine br_f (nI_pos (by omega)) (br_f (nI_ge (b := 32) hkk (by decide)) ⟨vp_in_nI hkk (by decide), ?_⟩)
  rw [nI_clamp (by omega)]
  rw [r1] at hp
  rcases r2 with z | z
  · rw [z, if_neg (by decide)] at hp
    exact br_t z hp
  · rw [z, if_pos rfl] at hp
    exact br_f (by rw [z]; decide) hp
theorem sy_hasn {there value rem num ans homes : Nat → Int32} {p : Int32} {post : Int32 → Prop} (h : p < 0 ∨ 32 ≤ p) (hp : post 0) : wpY_has post (there, value, rem, num, ans, homes) p := by
  by_cases h0 : p < 0
  · exact br_t h0 hp
  · rcases h with h | h
    · exact absurd h h0
    · exact br_f h0 (br_t h hp)
theorem sy_get {A : Nat → Nat → Int32} {there value rem num ans homes : Nat → Int32} (R : sm_R A there value rem num ans) {kk : Nat} (hkk : kk < 32) {post : Int32 → Prop} (hp : post (A (kk % 8) (4 + kk / 8))) : wpY_get post (there, value, rem, num, ans, homes) (nI kk) := by
  obtain ⟨r1, r2, r3⟩ := R.1 kk hkk
  unfold wpY_get
  refine sy_has R hkk ?_
  rw [nI_clamp (by omega), r1]
  rw [r3] at hp
  rcases r2 with z | z
  · rw [if_pos z] at hp
    rw [z, if_neg (by decide)]
    exact br_t rfl hp
  · rw [if_neg (by rw [z]; decide)] at hp
    rw [z, if_pos rfl]
    exact br_f (by decide) ⟨vp_in_nI hkk (by decide), hp⟩
theorem sy_getn {there value rem num ans homes : Nat → Int32} {p : Int32} {post : Int32 → Prop} (h : p < 0 ∨ 32 ≤ p) (hp : post 0) : wpY_get post (there, value, rem, num, ans, homes) p := by
  unfold wpY_get
  exact sy_hasn h (br_t rfl hp)
theorem sm_at {kk j : Nat} (hkk : kk < 32) : 4 * (nI kk &&& 7) + nI j = nI (4 * (kk % 8) + j) := by
  rw [sm_k7 hkk, ← nI_add, ← pk_mul]
  rfl
theorem sy_fresh {A : Nat → Nat → Int32} {there value rem num ans homes : Nat → Int32} (R : sm_R A there value rem num ans) {kk j : Nat} (hkk : kk < 32) (hj : j < 4) (p : Int32) {post : Int32 → Prop} (h0 : A (kk % 8) (8 + j) = 1 → p ≤ A (kk % 8) (12 + j) → post 0) (h1 : (A (kk % 8) (8 + j) = 1 → ¬ p ≤ A (kk % 8) (12 + j)) → post 1) : wpY_fresh post (there, value, rem, num, ans, homes) (nI j) p (nI kk) := by
  obtain ⟨r1, r2, r3, r4⟩ := R.2 (kk % 8) j (by omega) hj
  have hi : vp_in (nI (4 * (kk % 8) + j)) 32 := vp_in_nI (by omega) (by decide)
  refine nm_r (sm_at hkk) ⟨hi, ?_⟩
  rw [nI_clamp (by omega)]
  rw [r1, r3] at h0 h1
  rcases r2 with z | z
  · exact br_t z (h1 (fun q => absurd (z.symm.trans q) (by decide)))
  · refine br_f (by rw [z]; decide) ⟨hi, ?_⟩
    by_cases y : p ≤ num (4 * (kk % 8) + j)
    · exact br_t y (h0 z y)
    · exact br_f y (h1 (fun _ => y))
theorem sy_again {A : Nat → Nat → Int32} {there value rem num ans homes : Nat → Int32} (R : sm_R A there value rem num ans) {kk j : Nat} (hkk : kk < 32) (hj : j < 4) (p : Int32) {post : Int32 → Prop} (h0 : A (kk % 8) (12 + j) = p → post (A (kk % 8) (16 + j))) (h1 : ¬ A (kk % 8) (12 + j) = p → post (-1)) : wpY_again post (there, value, rem, num, ans, homes) (nI j) p (nI kk) := by
  obtain ⟨r1, r2, r3, r4⟩ := R.2 (kk % 8) j (by omega) hj
  have hi : vp_in (nI (4 * (kk % 8) + j)) 32 := vp_in_nI (by omega) (by decide)
  refine nm_r (sm_at hkk) ⟨hi, ?_⟩
  rw [nI_clamp (by omega)]
  rw [r3] at h0 h1
  rw [r4] at h0
  exact br_c (fun z => ⟨hi, h0 z⟩) h1
theorem sy_done {there value rem num ans homes : Nat → Int32} {kk j : Nat} (hkk : kk < 32) (hj : j < 4) (p x : Int32) {post : Int32 → SY → Prop} (hp : post x (there, value, upd rem (4 * (kk % 8) + j) 1, upd num (4 * (kk % 8) + j) p, upd ans (4 * (kk % 8) + j) x, homes)) : wpY_done post (there, value, rem, num, ans, homes) (nI j) p (nI kk) x := by
  have hi : vp_in (nI (4 * (kk % 8) + j)) 32 := vp_in_nI (by omega) (by decide)
  have hb : vp_nar .boolean 1 = 1 := rfl
  refine nm_r (sm_at hkk) ?_
  rw [nI_clamp (by omega), hb]
  exact ⟨hi, nm_e ⟨hi, nm_e ⟨hi, nm_e hp⟩⟩⟩
theorem sy_pre {A : Nat → Nat → Int32} {there value rem num ans homes : Nat → Int32} (R : sm_R A there value rem num ans) {kk j : Nat} (hkk : kk < 32) (hj : j < 4) (p2 : Int32) {post : Int32 → SY → Prop} {Q : Prop}
    (h1 : A (kk % 8) (8 + j) = 1 → A (kk % 8) (12 + j) = p2 → post (A (kk % 8) (16 + j)) (there, value, rem, num, ans, homes))
    (h2 : A (kk % 8) (8 + j) = 1 → ¬ A (kk % 8) (12 + j) = p2 → ¬ A (kk % 8) (12 + j) ≤ p2 → post (-1) (there, value, rem, num, ans, homes))
    (h3 : (A (kk % 8) (8 + j) = 1 → ¬ A (kk % 8) (12 + j) = p2 ∧ A (kk % 8) (12 + j) ≤ p2) → Q) :
    wpY_fresh (fun r => ((r = 0 → wpY_again (fun r2 => post r2 (there, value, rem, num, ans, homes)) (there, value, rem, num, ans, homes) (nI j) p2 (nI kk)) ∧ (¬ r = 0 → Q))) (there, value, rem, num, ans, homes) (nI j) p2 (nI kk) := by
  refine sy_fresh R hkk hj p2 (fun z1 z2 => br_t rfl (sy_again R hkk hj p2 (fun z3 => h1 z1 z3) (fun z3 => h2 z1 z3 (fun z4 => z3 (Int32.le_antisymm z4 z2))))) (fun z => br_f (by decide) (h3 (fun z1 => ⟨fun z2 => z z1 ?_, ?_⟩)))
  · rw [z2]; exact Int32.le_refl _
  · exact Int32.le_of_lt (Int32.not_le.mp (z z1))
theorem sy_put {A : Nat → Nat → Int32} {there value rem num ans homes : Nat → Int32} (R : sm_R A there value rem num ans) {kk j : Nat} (hkk : kk < 32) (hj : j < 4) (p2 p4 : Int32) {post : Int32 → SY → Prop}
    (h1 : A (kk % 8) (8 + j) = 1 → A (kk % 8) (12 + j) = p2 → post (A (kk % 8) (16 + j)) (there, value, rem, num, ans, homes))
    (h2 : A (kk % 8) (8 + j) = 1 → ¬ A (kk % 8) (12 + j) = p2 → ¬ A (kk % 8) (12 + j) ≤ p2 → post (-1) (there, value, rem, num, ans, homes))
    (h3 : (A (kk % 8) (8 + j) = 1 → ¬ A (kk % 8) (12 + j) = p2 ∧ A (kk % 8) (12 + j) ≤ p2) → ∀ there' value' rem' num' ans', sm_R (sm_B A kk j 0 p2 p4) there' value' rem' num' ans' → post (sm_an 0 p4 (A (kk % 8) (4 + kk / 8))) (there', value', rem', num', ans', homes)) : wpY_put post (there, value, rem, num, ans, homes) (nI j) p2 (nI kk) p4 := by
  have hi : vp_in (nI kk) 32 := vp_in_nI (by omega) (by decide)
  have hb : vp_nar .boolean 1 = 1 := rfl
  unfold wpY_put
  refine sy_bad0 hj hkk (br_t rfl ?_)
  rw [nI_clamp (by omega), hb]
  refine sy_pre R hkk hj p2 h1 h2 (fun hc => ?_)
  refine sy_get R hkk ⟨hi, nm_e ⟨hi, nm_e (sy_done hkk hj _ _ ?_)⟩⟩
  refine h3 hc _ _ _ _ _ (sm_RB R hkk hj 0 p2 p4 (upd there kk 1) (upd value kk p4) ?_ (fun y hy => pk_un hy) ?_ (fun y hy => pk_un hy))
  · exact pk_us
  · rw [pk_us, pk_us]; rfl
theorem sy_addTo {A : Nat → Nat → Int32} {there value rem num ans homes : Nat → Int32} (R : sm_R A there value rem num ans) {kk j : Nat} (hkk : kk < 32) (hj : j < 4) (p2 p4 : Int32) {post : Int32 → SY → Prop}
    (h1 : A (kk % 8) (8 + j) = 1 → A (kk % 8) (12 + j) = p2 → post (A (kk % 8) (16 + j)) (there, value, rem, num, ans, homes))
    (h2 : A (kk % 8) (8 + j) = 1 → ¬ A (kk % 8) (12 + j) = p2 → ¬ A (kk % 8) (12 + j) ≤ p2 → post (-1) (there, value, rem, num, ans, homes))
    (h3 : (A (kk % 8) (8 + j) = 1 → ¬ A (kk % 8) (12 + j) = p2 ∧ A (kk % 8) (12 + j) ≤ p2) → ∀ there' value' rem' num' ans', sm_R (sm_B A kk j 1 p2 p4) there' value' rem' num' ans' → post (sm_an 1 p4 (A (kk % 8) (4 + kk / 8))) (there', value', rem', num', ans', homes)) : wpY_addTo post (there, value, rem, num, ans, homes) (nI j) p2 (nI kk) p4 := by
  have hi : vp_in (nI kk) 32 := vp_in_nI (by omega) (by decide)
  have hb : vp_nar .boolean 1 = 1 := rfl
  unfold wpY_addTo
  refine sy_bad0 hj hkk (br_t rfl ?_)
  rw [nI_clamp (by omega), hb]
  refine sy_pre R hkk hj p2 h1 h2 (fun hc => ?_)
  refine sy_get R hkk (nm_e ⟨hi, nm_e ⟨hi, nm_e (sy_done hkk hj _ _ ?_)⟩⟩)
  refine h3 hc _ _ _ _ _ (sm_RB R hkk hj 1 p2 p4 (upd there kk 1) (upd value kk (A (kk % 8) (4 + kk / 8) + p4)) ?_ (fun y hy => pk_un hy) ?_ (fun y hy => pk_un hy))
  · exact pk_us
  · rw [pk_us, pk_us]; rfl
theorem sy_remove {A : Nat → Nat → Int32} {there value rem num ans homes : Nat → Int32} (R : sm_R A there value rem num ans) {kk j : Nat} (hkk : kk < 32) (hj : j < 4) (p2 : Int32) {post : Int32 → SY → Prop}
    (h1 : A (kk % 8) (8 + j) = 1 → A (kk % 8) (12 + j) = p2 → post (A (kk % 8) (16 + j)) (there, value, rem, num, ans, homes))
    (h2 : A (kk % 8) (8 + j) = 1 → ¬ A (kk % 8) (12 + j) = p2 → ¬ A (kk % 8) (12 + j) ≤ p2 → post (-1) (there, value, rem, num, ans, homes))
    (h3 : (A (kk % 8) (8 + j) = 1 → ¬ A (kk % 8) (12 + j) = p2 ∧ A (kk % 8) (12 + j) ≤ p2) → ∀ there' value' rem' num' ans', sm_R (sm_B A kk j 2 p2 0) there' value' rem' num' ans' → post (sm_an 2 0 (A (kk % 8) (4 + kk / 8))) (there', value', rem', num', ans', homes)) : wpY_remove post (there, value, rem, num, ans, homes) (nI j) p2 (nI kk) := by
  have hi : vp_in (nI kk) 32 := vp_in_nI (by omega) (by decide)
  have hb : vp_nar .boolean 0 = 0 := rfl
  unfold wpY_remove
  refine sy_bad0 hj hkk (br_t rfl ?_)
  rw [nI_clamp (by omega), hb]
  refine sy_pre R hkk hj p2 h1 h2 (fun hc => ?_)
  refine sy_get R hkk ⟨hi, nm_e (sy_done hkk hj _ _ ?_)⟩
  refine h3 hc _ _ _ _ _ (sm_RB R hkk hj 2 p2 0 (upd there kk 0) value ?_ (fun y hy => pk_un hy) ?_ (fun y hy => rfl))
  · exact pk_us
  · rw [pk_us]; rfl
def sm_ct (there : Nat → Int32) (c : Nat) : Nat → Int32
  | 0 => 0
  | n + 1 => sm_ct there c n + (if n % 8 = c then there n else 0)
theorem sm_ct8 (there : Nat → Int32) {c : Nat} (hc : c < 8) (q : Nat) : ∀ r, r ≤ 8 → sm_ct there c (8 * q + r) = sm_ct there c (8 * q) + if c < r then there (8 * q + c) else 0 := by
  intro r
  induction r with
  | zero => intro _; rw [if_neg (by omega), Int32.add_zero]; rfl
  | succ r ih =>
    intro hr
    show sm_ct there c (8 * q + r) + (if (8 * q + r) % 8 = c then there (8 * q + r) else 0) = _
    rw [ih (by omega)]
    by_cases e : r = c
    · subst e
      rw [if_neg (by omega), if_pos (by omega), if_pos (by omega), Int32.add_zero]
    · rw [if_neg (c := (8 * q + r) % 8 = c) (by omega), Int32.add_zero]
      by_cases z : c < r
      · rw [if_pos z, if_pos (by omega)]
      · rw [if_neg z, if_neg (by omega)]
theorem sm_ctA {A : Nat → Nat → Int32} {there value rem num ans : Nat → Int32} (R : sm_R A there value rem num ans) {c : Nat} (hc : c < 8) : sm_ct there c 32 = A c 0 + A c 1 + A c 2 + A c 3 := by
  have a : ∀ s, s < 4 → there (8 * s + c) = A c s := by
    intro s hs
    have q := (R.1 (8 * s + c) (by omega)).1
    rw [show (8 * s + c) % 8 = c by omega, show (8 * s + c) / 8 = s by omega] at q
    exact q.symm
  have s0 := sm_ct8 there hc 0 8 (by omega)
  have s1 := sm_ct8 there hc 1 8 (by omega)
  have s2 := sm_ct8 there hc 2 8 (by omega)
  have s3 := sm_ct8 there hc 3 8 (by omega)
  rw [if_pos hc, a _ (by omega)] at s0 s1 s2 s3
  have z : sm_ct there c (8 * 0) = 0 := rfl
  rw [z, Int32.zero_add] at s0
  have e0 : 8 * 0 + 8 = 8 * 1 := by omega
  have e1 : 8 * 1 + 8 = 8 * 2 := by omega
  have e2 : 8 * 2 + 8 = 8 * 3 := by omega
  rw [e0] at s0
  rw [e1, s0] at s1
  rw [e2, s1] at s2
  rw [s2] at s3
  exact s3
theorem sy_size {A : Nat → Nat → Int32} {there value rem num ans homes : Nat → Int32} (R : sm_R A there value rem num ans) {c : Nat} (hc : c < 8) {p : Int32} (ep : p &&& 7 = nI c) {post : Int32 → Prop} (hp : post (A c 0 + A c 1 + A c 2 + A c 3)) : wpY_size post (there, value, rem, num, ans, homes) p := by
  rw [← sm_ctA R hc] at hp
  have key : ∀ d j : Nat, j + d = 32 → wY_size_4 post p there value rem num ans homes (d + 1) (sm_ct there c j) (nI j) := by
    intro d
    induction d with
    | zero =>
      intro j hj
      have ej : j = 32 := by omega
      subst ej
      exact br_t (nI_le (a := 32) (b := 32) (by omega) (by omega)) hp
    | succ d ih =>
      intro j hj
      have ih' := ih (j + 1) (by omega)
      have es : sm_ct there c (j + 1) = sm_ct there c j + (if j % 8 = c then there j else 0) := rfl
      rw [es] at ih'
      have hi : vp_in (nI j) 32 := vp_in_nI (by omega) (by decide)
      refine br_f (nI_ge (b := 32) (by omega) (by decide)) ⟨hi, ?_⟩
      rw [nI_clamp (by omega), sm_k7 (by omega), ep]
      rcases (R.1 j (by omega)).2.1 with z | z
      · rw [z, ite_self, Int32.add_zero] at ih'
        exact br_t z (nm_r (nI_1 j) ih')
      · refine br_f (by rw [z]; decide) ?_
        rw [z] at ih'
        refine pk_eq (j % 8) c (fun e => ?_) (fun e => ?_)
        · rw [if_pos e] at ih'
          exact nm_e (nm_r (nI_1 j) ih')
        · rw [if_neg e, Int32.add_zero] at ih'
          exact nm_r (nI_1 j) ih'
  exact ⟨33, key 32 0 (by omega)⟩
theorem sm_last {A : Nat → Nat → Int32} {m w hm ho cp : Nat → Int32} (I : sm_I A m w hm ho cp) {there value rem num ans homes : Nat → Int32} (R : sm_R A there value rem num ans) (p : Int32) : ∀ n, n ≤ 32 → ∃ r : Int32, (∀ post : Int32 → Prop, post r → wX_lastFrom_3 post p m w hm ho cp (n + 1) (nI n + (-1))) ∧ (∀ post : Int32 → Prop, post r → wY_lastFrom_3 post p there value rem num ans homes (n + 1) (nI n + (-1))) := by
  intro n
  induction n with
  | zero => intro _; exact ⟨-1, fun _ hp => br_t (by decide) hp, fun _ hp => br_t (by decide) hp⟩
  | succ n ih =>
    intro hn
    obtain ⟨r, hX, hY⟩ := ih (by omega)
    obtain ⟨r1, r2, r3⟩ := R.1 n (by omega)
    have hi : vp_in (nI n) 32 := vp_in_nI (by omega) (by decide)
    have h0 : ¬ nI n < 0 := nI_pos (by omega)
    rw [pk_m1]
    rcases r2 with z | z
    · refine ⟨r, fun post hp => br_f h0 (sx_has I (by omega) ?_), fun post hp => br_f h0 ⟨hi, ?_⟩⟩
      · rw [r1, z, if_neg (by decide)]
        exact br_t rfl (nm_e (hX post hp))
      · rw [nI_clamp (by omega)]
        exact br_t z (nm_e (hY post hp))
    · have zn : ¬ there n = 0 := by rw [z]; decide
      rw [if_neg zn] at r3
      by_cases y : value n < p
      · refine ⟨r, fun post hp => br_f h0 (sx_has I (by omega) ?_), fun post hp => br_f h0 ⟨hi, ?_⟩⟩
        · rw [r1, z, if_pos rfl]
          refine br_f (by decide) (sx_get I (by omega) ?_)
          rw [r3]
          exact br_t y (nm_e (hX post hp))
        · rw [nI_clamp (by omega)]
          exact br_f zn ⟨hi, br_t y (nm_e (hY post hp))⟩
      · refine ⟨nI n, fun post hp => br_f h0 (sx_has I (by omega) ?_), fun post hp => br_f h0 ⟨hi, ?_⟩⟩
        · rw [r1, z, if_pos rfl]
          refine br_f (by decide) (sx_get I (by omega) ?_)
          rw [r3]
          exact br_f y hp
        · rw [nI_clamp (by omega)]
          exact br_f zn ⟨hi, br_f y hp⟩
theorem sy_init {post : SY → Prop} (hp : post (fun _ => 0, fun _ => 0, fun _ => 0, fun _ => 0, fun _ => 0, sm_h0 8)) : wpY_init post := by
  have key : ∀ d j : Nat, j + d = 8 → wY_init_54 post (d + 1) (nI j) (fun _ => 0) (fun _ => 0) (fun _ => 0) (fun _ => 0) (fun _ => 0) (sm_h0 j) := by
    intro d
    induction d with
    | zero =>
      intro j hj
      have ej : j = 8 := by omega
      subst ej
      exact br_t (nI_le (a := 8) (b := 8) (by omega) (by omega)) hp
    | succ d ih =>
      intro j hj
      have hi : vp_in (nI j) 8 := vp_in_nI (by omega) (by decide)
      have e3 : nI j &&& 3 = nI (j % 4) := pk_andN (by omega) 2 (by decide)
      refine br_f (nI_ge (b := 8) (by omega) (by decide)) ?_
      rw [nI_clamp (by omega), e3]
      exact ⟨hi, nm_r (sm_h0s j) (nm_r (nI_1 j) (ih (j + 1) (by omega)))⟩
  have q := key 8 0 rfl
  rw [sm_h00] at q
  exact ⟨9, q⟩
