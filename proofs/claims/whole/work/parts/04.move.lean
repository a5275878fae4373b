theorem sx_ctm {m w hm ho cp : Nat → Int32} {post : Int32 → Prop} (h0 : post (-1)) (h1 : ∀ c, c < 8 → ¬ ho c = hm c → post (nI c)) : wpX_classToMove post (m, w, hm, ho, cp) := by
  have key : ∀ d j : Nat, j + d = 8 → wX_classToMove_2 post m w hm ho cp (d + 1) (nI j) := by
    intro d
    induction d with
    | zero => intro j hj; exact br_t (nI_le (a := 8) (by omega) (by omega)) h0
    | succ d ih =>
      intro j hj
      have hi : vp_in (nI j) 8 := vp_in_nI (by omega) (by decide)
      refine br_f (nI_ge (b := 8) (by omega) (by decide)) ⟨hi, hi, ?_⟩
      rw [nI_clamp (by omega)]
      by_cases z : ho j = hm j
      · exact br_t z (nm_r (nI_1 j) (ih (j + 1) (by omega)))
      · exact br_f z (h1 j (by omega) z)
  exact ⟨9, key 8 0 rfl⟩
theorem sx_t13 {m w hm ho cp : Nat → Int32} {b c : Nat} (hb : b + 20 ≤ 640) (hc : c < 8) {post : SX → Prop} (hend : ∀ w' : Nat → Int32, (∀ y, w' y = if b ≤ y ∧ y < b + 20 then m y else w y) → post (m, w', hm, upd ho c (hm c), upd cp c 0)) : wX_takeOver_13 post (nI c) (nI b) 21 0 m w hm ho cp := by
  have key : ∀ (d j : Nat) (w' : Nat → Int32), j + d = 20 → (∀ y, w' y = if b ≤ y ∧ y < b + j then m y else w y) → wX_takeOver_13 post (nI c) (nI b) (d + 1) (nI j) m w' hm ho cp := by
    intro d
    have hi : vp_in (nI c) 8 := vp_in_nI (by omega) (by decide)
    induction d with
    | zero =>
      intro j w' hj hw
      have ej : j = 20 := by omega
      subst ej
      refine br_t (nI_le (a := 20) (b := 20) (by omega) (by omega)) ⟨hi, hi, ?_⟩
      rw [nI_clamp (by omega)]
      exact nm_e ⟨hi, nm_e (hend w' hw)⟩
    | succ d ih =>
      intro j w' hj hw
      have hv : vp_in (nI (b + j)) 640 := vp_in_nI (by omega) (by decide)
      refine br_f (nI_ge (b := 20) (by omega) (by decide)) ?_
      rw [nI_add]
      refine ⟨hv, hv, ?_⟩
      rw [nI_clamp (by omega)]
      refine nm_e (nm_r (nI_1 j) (ih (j + 1) _ (by omega) (fun y => ?_)))
      by_cases e : y = b + j
      · subst e
        rw [pk_us, if_pos (by omega)]
      · rw [pk_un e, hw y]
        by_cases z : b ≤ y ∧ y < b + j
        · rw [if_pos z, if_pos (by omega)]
        · rw [if_neg z, if_neg (by omega)]
  refine key 20 0 w (by omega) (fun y => ?_)
  rw [if_neg (by omega)]
theorem sm_take {A : Nat → Nat → Int32} {m w hm ho cp : Nat → Int32} (I : sm_I A m w hm ho cp) {c h o : Nat} (hc : c < 8) (eh : hm c = nI h) (C : sm_C (A c) m w c h o 20) (w' : Nat → Int32) (hw : ∀ y, w' y = if h * 160 + c * 20 ≤ y ∧ y < h * 160 + c * 20 + 20 then m y else w y) : sm_I A m w' hm (upd ho c (hm c)) (upd cp c 0) := by
  intro c' hc'
  by_cases e : c' = c
  · subst e
    obtain ⟨h4, o4, k20, hk, h1, h2, h3⟩ := C
    refine ⟨h, h, 0, eh, ?_, ?_, h4, h4, by omega, fun _ => rfl, h3, fun i hi => ?_, fun i hi => by omega⟩
    · rw [pk_us]; exact eh
    · rw [pk_us, nI_0]
    · rw [hw, if_pos (by omega)]; exact h3 i hi
  · obtain ⟨h', o', k', eh', eo', ek', C'⟩ := I c' hc'
    refine ⟨h', o', k', eh', ?_, ?_, sm_Cf C' (fun _ _ _ => rfl) (fun g i hi => ?_)⟩
    · rw [pk_un e]; exact eo'
    · rw [pk_un e]; exact ek'
    · rw [hw, if_neg (by omega)]
theorem sx_take {A : Nat → Nat → Int32} {m w hm ho cp : Nat → Int32} (I : sm_I A m w hm ho cp) {c h o : Nat} (hc : c < 8) (eh : hm c = nI h) (C : sm_C (A c) m w c h o 20) {post : SX → Prop} (hp : ∀ w' ho' cp', sm_I A m w' hm ho' cp' → post (m, w', hm, ho', cp')) : wpX_takeOver post (m, w, hm, ho, cp) (nI c) := by
  have h4 : h < 4 := C.1
  refine ⟨vp_in_nI hc (by decide), ?_⟩
  rw [nI_clamp (by omega), eh]
  refine sx_first ⟨21, sx_t13 (by omega) hc (fun w' hw => hp _ _ _ ?_)⟩
  exact sm_take I hc eh C w' hw
theorem sm_move {A : Nat → Nat → Int32} {m w hm ho cp : Nat → Int32} (I : sm_I A m w hm ho cp) {c h o k : Nat} (hc : c < 8) (eh : hm c = nI h) (eo : ho c = nI o) (C : sm_C (A c) m w c h o k) (hk : k < 20) (hne : ¬ h = o) : sm_I A (upd m (h * 160 + c * 20 + k) (A c k)) w hm ho (upd cp c (nI (k + 1))) := by
  intro c' hc'
  by_cases e : c' = c
  · subst e
    obtain ⟨h4, o4, k20, hk0, h1, h2, h3⟩ := C
    refine ⟨h, o, k + 1, eh, eo, pk_us, h4, o4, by omega, fun z => absurd z hne, fun i hi => ?_, h2, fun i hi => ?_⟩
    · rw [pk_un (by omega)]; exact h1 i hi
    · by_cases e : i = k
      · subst e
        exact pk_us
      · rw [pk_un (by omega)]; exact h3 i (by omega)
  · obtain ⟨h', o', k', eh', eo', ek', C'⟩ := I c' hc'
    refine ⟨h', o', k', eh', eo', ?_, sm_Cf C' (fun g i hi => ?_) (fun _ _ _ => rfl)⟩
    · rw [pk_un e]; exact ek'
    · exact pk_un (by omega)
theorem sx_move {A : Nat → Nat → Int32} {m w hm ho cp : Nat → Int32} (I : sm_I A m w hm ho cp) {c : Nat} (hc : c < 8) (hno : ¬ ho c = hm c) {post : SX → Prop} (hp : ∀ m' w' ho' cp', sm_I A m' w' hm ho' cp' → post (m', w', hm, ho', cp')) : wpX_moveOneStep post (m, w, hm, ho, cp) (nI c) := by
  obtain ⟨h, o, k, eh, eo, ek, C⟩ := I c hc
  have hi : vp_in (nI c) 8 := vp_in_nI hc (by decide)
  have hne : ¬ h = o := fun z => hno (by rw [eo, eh, z])
  have h4 : h < 4 := C.1
  have k20 : k ≤ 20 := C.2.2.1
  refine ⟨hi, ?_⟩
  rw [nI_clamp (n := c) (by omega), eh]
  refine nm_r ek ?_
  refine pk_lt k 20 (fun hk => ⟨hi, ?_⟩) (fun hk => ?_)
  · refine sx_first (nm_r (nI_add _ _) ?_)
    refine sx_load I hc hk ⟨vp_in_nI (by omega) (by decide), nm_e ⟨hi, nm_e ?_⟩⟩
    rw [nI_1 k, nI_clamp (by omega)]
    exact hp _ _ _ _ (sm_move I hc eh eo C hk hne)
  · have ek2 : k = 20 := by omega
    subst ek2
    exact sx_take I hc eh C (fun w' ho' cp' I' => hp _ _ _ _ I')
theorem sx_work {A : Nat → Nat → Int32} {m w hm ho cp : Nat → Int32} (I : sm_I A m w hm ho cp) (p : Int32) {post : SX → Prop} (hp : ∀ m' w' ho' cp', sm_I A m' w' hm ho' cp' → post (m', w', hm, ho', cp')) : wpX_work post (m, w, hm, ho, cp) p := by
  by_cases h0 : p < 0
  · exact ⟨1, br_t (Int32.le_of_lt h0) (hp _ _ _ _ I)⟩
  · obtain ⟨n, hn, rfl⟩ := nI_of h0
    have key : ∀ (d j : Nat) (m w ho cp : Nat → Int32), j + d = n → sm_I A m w hm ho cp → wX_work_2 post (nI n) (d + 1) (nI j) m w hm ho cp := by
      intro d
      induction d with
      | zero => intro j m w ho cp hj I; exact br_t (nI_le (by omega) (by omega)) (hp _ _ _ _ I)
      | succ d ih =>
        intro j m w ho cp hj I
        refine br_f (nI_ge (by omega) hn) ?_
        refine sx_ctm (br_t rfl (hp _ _ _ _ I)) (fun c hc hne => br_f ?_ (sx_move I hc hne (fun m' w' ho' cp' I' => nm_r (nI_1 j) (ih (j + 1) m' w' ho' cp' (by omega) I'))))
        exact fun z => nI_pos (n := c) (by omega) (by rw [z]; decide)
    exact ⟨n + 1, key n 0 m w ho cp (by omega) I⟩
theorem sx_l48 {m w hm ho cp : Nat → Int32} {g : Nat} {post : SX → Prop} (hend : ∀ cp' : Nat → Int32, (∀ c, cp' c = if c < 8 ∧ hm c = nI g then 0 else cp c) → post (m, w, hm, ho, cp')) : wX_lose_48 post (nI g) 9 0 m w hm ho cp := by
  have key : ∀ (d j : Nat) (cp' : Nat → Int32), j + d = 8 → (∀ c, cp' c = if c < j ∧ hm c = nI g then 0 else cp c) → wX_lose_48 post (nI g) (d + 1) (nI j) m w hm ho cp' := by
    intro d
    induction d with
    | zero =>
      intro j cp' hj hw
      have ej : j = 8 := by omega
      subst ej
      exact br_t (nI_le (a := 8) (b := 8) (by omega) (by omega)) (hend cp' hw)
    | succ d ih =>
      intro j cp' hj hw
      have hi : vp_in (nI j) 8 := vp_in_nI (by omega) (by decide)
      refine br_f (nI_ge (b := 8) (by omega) (by decide)) ⟨hi, ?_⟩
      rw [nI_clamp (by omega)]
      by_cases z : hm j = nI g
      · refine br_t z ⟨hi, nm_e (nm_r (nI_1 j) (ih (j + 1) _ (by omega) (fun c => ?_)))⟩
        by_cases e : c = j
        · subst e
          rw [pk_us, if_pos ⟨by omega, z⟩]
        · rw [pk_un e, hw c]
          by_cases y : c < j
          · by_cases y2 : hm c = nI g
            · rw [if_pos ⟨y, y2⟩, if_pos ⟨by omega, y2⟩]
            · rw [if_neg (fun q => y2 q.2), if_neg (fun q => y2 q.2)]
          · rw [if_neg (fun q => y q.1), if_neg (fun q => by have := q.1; omega)]
      · refine br_f z (nm_r (nI_1 j) (ih (j + 1) _ (by omega) (fun c => ?_)))
        rw [hw c]
        by_cases y2 : hm c = nI g
        · have e : c ≠ j := fun q => z (q ▸ y2)
          by_cases y : c < j
          · rw [if_pos ⟨y, y2⟩, if_pos ⟨by omega, y2⟩]
          · rw [if_neg (fun q => y q.1), if_neg (fun q => by have := q.1; omega)]
        · rw [if_neg (fun q => y2 q.2), if_neg (fun q => y2 q.2)]
  refine key 8 0 cp (by omega) (fun y => ?_)
  rw [if_neg (fun q => by have := q.1; omega)]
theorem sx_l13 {m w hm ho cp : Nat → Int32} {b : Nat} (hb : b + 160 ≤ 640) {x2 : Int32} {post : SX → Prop} (hend : ∀ m' : Nat → Int32, (∀ y, m' y = if b ≤ y ∧ y < b + 160 then w y else m y) → ∃ n, wX_lose_48 post x2 n 0 m' w hm ho cp) : wX_lose_13 post x2 (nI b) 161 0 m w hm ho cp := by
  have key : ∀ (d j : Nat) (m' : Nat → Int32), j + d = 160 → (∀ y, m' y = if b ≤ y ∧ y < b + j then w y else m y) → wX_lose_13 post x2 (nI b) (d + 1) (nI j) m' w hm ho cp := by
    intro d
    induction d with
    | zero =>
      intro j m' hj hw
      have ej : j = 160 := by omega
      subst ej
      exact br_t (nI_le (a := 160) (b := 160) (by omega) (by omega)) (hend m' hw)
    | succ d ih =>
      intro j m' hj hw
      have hv : vp_in (nI (b + j)) 640 := vp_in_nI (by omega) (by decide)
      refine br_f (nI_ge (b := 160) (by omega) (by decide)) ?_
      rw [nI_add]
      refine ⟨hv, hv, ?_⟩
      rw [nI_clamp (by omega)]
      refine nm_e (nm_r (nI_1 j) (ih (j + 1) _ (by omega) (fun y => ?_)))
      by_cases e : y = b + j
      · subst e
        rw [pk_us, if_pos (by omega)]
      · rw [pk_un e, hw y]
        by_cases z : b ≤ y ∧ y < b + j
        · rw [if_pos z, if_pos (by omega)]
        · rw [if_neg z, if_neg (by omega)]
  refine key 160 0 m (by omega) (fun y => ?_)
  rw [if_neg (by omega)]
theorem sm_lose {A : Nat → Nat → Int32} {m w hm ho cp : Nat → Int32} (I : sm_I A m w hm ho cp) {g : Nat} (hg : g < 4) (m' cp' : Nat → Int32) (e1 : ∀ y, m' y = if g * 160 ≤ y ∧ y < g * 160 + 160 then w y else m y) (e2 : ∀ c, cp' c = if c < 8 ∧ hm c = nI g then 0 else cp c) : sm_I A m' w hm ho cp' := by
  intro c hc
  obtain ⟨h, o, k, eh, eo, ek, h4, o4, k20, hk, h1, h2, h3⟩ := I c hc
  have hm1 : ∀ i, i < 20 → m' (o * 160 + c * 20 + i) = A c i := by
    intro i hi
    rw [e1]
    by_cases z : o = g
    · subst z
      rw [if_pos (by omega)]; exact h2 i hi
    · rw [if_neg (by omega)]; exact h1 i hi
  by_cases z : h = g
  · subst z
    refine ⟨h, o, 0, eh, eo, ?_, h4, o4, by omega, fun _ => rfl, hm1, h2, fun i hi => by omega⟩
    rw [e2, if_pos ⟨hc, eh⟩, nI_0]
  · refine ⟨h, o, k, eh, eo, ?_, h4, o4, k20, hk, hm1, h2, fun i hi => ?_⟩
    · rw [e2, if_neg (fun q => ?_)]
      · exact ek
      · have q2 := q.2
        rw [eh, nI_eq (by omega) (by omega)] at q2
        exact z q2
    · rw [e1, if_neg (by omega)]; exact h3 i hi
theorem sx_lose {A : Nat → Nat → Int32} {m w hm ho cp : Nat → Int32} (I : sm_I A m w hm ho cp) (p : Int32) {post : SX → Prop} (hp : ∀ m' w' ho' cp', sm_I A m' w' hm ho' cp' → post (m', w', hm, ho', cp')) : wpX_lose post (m, w, hm, ho, cp) p := by
  obtain ⟨g, hg, eg⟩ := pk_andE p (m := 3) 2 (by decide)
  have e160 : nI g * 160 = nI (g * 160) := pk_mul g 160
  refine nm_r eg (nm_r e160 ⟨161, sx_l13 (by omega) (fun m' e1 => ⟨9, sx_l48 (fun cp' e2 => hp _ _ _ _ ?_)⟩)⟩)
  exact sm_lose I hg m' cp' e1 e2
theorem sm_us {f : Nat → Int32} {c : Nat} : upd f c (f c) = f := by
  funext y
  by_cases e : y = c
  · subst e
    exact pk_us
  · exact pk_un e
theorem sm_as {A : Nat → Nat → Int32} {m w hm ho cp : Nat → Int32} (I : sm_I A m w hm ho cp) {c g : Nat} (hg : g < 4) : sm_I A m w (upd hm c (nI g)) ho (upd cp c 0) := by
  intro c' hc'
  obtain ⟨h, o, k, eh, eo, ek, C⟩ := I c' hc'
  by_cases e : c' = c
  · subst e
    obtain ⟨h4, o4, k20, hk, h1, h2, h3⟩ := C
    exact ⟨g, o, 0, pk_us, eo, by rw [pk_us, nI_0], hg, o4, by omega, fun _ => rfl, h1, h2, fun i hi => by omega⟩
  · exact ⟨h, o, k, by rw [pk_un e]; exact eh, eo, by rw [pk_un e]; exact ek, C⟩
theorem sx_assign {A : Nat → Nat → Int32} {m w hm ho cp : Nat → Int32} (I : sm_I A m w hm ho cp) {c g : Nat} (hc : c < 8) (hg : g < 4) {p0 p1 : Int32} (e0 : p0 &&& 7 = nI c) (e1 : p1 &&& 3 = nI g) {post : Int32 → SX → Prop} (hp : ∀ cp', sm_I A m w (upd hm c (nI g)) ho cp' → post (hm c) (m, w, upd hm c (nI g), ho, cp')) : wpX_assign post (m, w, hm, ho, cp) p0 p1 := by
  have hi : vp_in (nI c) 8 := vp_in_nI hc (by decide)
  refine nm_r e0 ⟨hi, ?_⟩
  rw [nI_clamp (by omega)]
  refine nm_e (nm_r e1 ?_)
  by_cases z : nI g = hm c
  · refine br_t z ?_
    have q := hp cp
    rw [z, sm_us] at q
    exact q I
  · exact br_f z ⟨hi, nm_e ⟨hi, nm_e (hp _ (sm_as I hg))⟩⟩
def sm_h0 (j : Nat) : Nat → Int32 := fun x => if x < j then nI (x % 4) else 0
theorem sm_h0s (j : Nat) : upd (sm_h0 j) j (nI (j % 4)) = sm_h0 (j + 1) := by
  funext y
  unfold sm_h0
  by_cases e : y = j
  · subst e
    rw [pk_us, if_pos (by omega)]
  · rw [pk_un e]
    by_cases z : y < j
    · rw [if_pos z, if_pos (by omega)]
    · rw [if_neg z, if_neg (by omega)]
theorem sm_h00 : sm_h0 0 = fun _ => 0 := by
  funext y
  exact if_neg (by omega)
theorem sx_init {post : SX → Prop} (hp : post (fun _ => 0, fun _ => 0, sm_h0 8, sm_h0 8, fun _ => 0)) : wpX_init post := by
  have key : ∀ d j : Nat, j + d = 8 → wX_init_48 post (d + 1) (nI j) (fun _ => 0) (fun _ => 0) (sm_h0 j) (sm_h0 j) (fun _ => 0) := by
    intro d
    induction d with
    | zero =>
      intro j hj
      have ej : j = 8 := by omega
      subst ej
      exact br_t (nI_le (a := 8) (b := 8) (by omega) (by omega)) hp
    | succ d ih =>
      intro j hj
      have hi : vp_in (nI j) 8 := vp_in_nI (by omega) (by decide)
      have e3 : nI j &&& 3 = nI (j % 4) := pk_andN (by omega) 2 (by decide)
      refine br_f (nI_ge (b := 8) (by omega) (by decide)) ?_
      rw [nI_clamp (by omega), e3]
      exact ⟨hi, nm_r (sm_h0s j) ⟨hi, nm_r (sm_h0s j) (nm_r (nI_1 j) (ih (j + 1) (by omega)))⟩⟩
  have q := key 8 0 rfl
  rw [sm_h00] at q
  exact ⟨9, q⟩
theorem sm_I0 : sm_I (fun _ _ => 0) (fun _ => 0) (fun _ => 0) (sm_h0 8) (sm_h0 8) (fun _ => 0) := by
  intro c hc
  exact ⟨c % 4, c % 4, 0, if_pos hc, if_pos hc, nI_0.symm, by omega, by omega, by omega, fun _ => rfl, fun _ _ => rfl, fun _ _ => rfl, fun _ _ => rfl⟩
