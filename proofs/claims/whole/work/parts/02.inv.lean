/-- one class: h its home, o its holder, k the cells that the home has of it; f its twenty cells -/
def sm_C (f : Nat → Int32) (m w : Nat → Int32) (c h o k : Nat) : Prop :=
  h < 4 ∧ o < 4 ∧ k ≤ 20 ∧ (h = o → k = 0) ∧ (∀ i, i < 20 → m (o * 160 + c * 20 + i) = f i) ∧ (∀ i, i < 20 → w (o * 160 + c * 20 + i) = f i) ∧ (∀ i, i < k → m (h * 160 + c * 20 + i) = f i)
/-- the component's state shows the table A: A c i is cell i of class c -/
def sm_I (A : Nat → Nat → Int32) (m w hm ho cp : Nat → Int32) : Prop :=
  ∀ c, c < 8 → ∃ h o k : Nat, hm c = nI h ∧ ho c = nI o ∧ cp c = nI k ∧ sm_C (A c) m w c h o k
def sm_up (A : Nat → Nat → Int32) (c i : Nat) (x : Int32) : Nat → Nat → Int32 := fun c' i' => if c' = c ∧ i' = i then x else A c' i'
theorem sm_ups {A : Nat → Nat → Int32} {c i : Nat} {x : Int32} : sm_up A c i x c i = x := if_pos ⟨rfl, rfl⟩
theorem sm_upn {A : Nat → Nat → Int32} {c i c' i' : Nat} {x : Int32} (h : ¬ (c' = c ∧ i' = i)) : sm_up A c i x c' i' = A c' i' := if_neg h
theorem sm_upc {A : Nat → Nat → Int32} {c i c' : Nat} {x : Int32} (h : ¬ c' = c) : sm_up A c i x c' = A c' := funext fun _ => if_neg fun z => h z.1
theorem sm_Cf {f m w m' w' : Nat → Int32} {c h o k : Nat} (C : sm_C f m w c h o k) (e1 : ∀ g i, i < 20 → m' (g * 160 + c * 20 + i) = m (g * 160 + c * 20 + i)) (e2 : ∀ g i, i < 20 → w' (g * 160 + c * 20 + i) = w (g * 160 + c * 20 + i)) : sm_C f m' w' c h o k := by
  obtain ⟨h4, o4, k20, hk, h1, h2, h3⟩ := C
  refine ⟨h4, o4, k20, hk, fun i hi => ?_, fun i hi => ?_, fun i hi => ?_⟩
  · rw [e1 o i hi, h1 i hi]
  · rw [e2 o i hi, h2 i hi]
  · rw [e1 h i (by omega), h3 i hi]
theorem sm_st {A : Nat → Nat → Int32} {m w hm ho cp : Nat → Int32} (I : sm_I A m w hm ho cp) {c i h o k : Nat} (hc : c < 8) (hi : i < 20) (eh : hm c = nI h) (eo : ho c = nI o) (ek : cp c = nI k) (C : sm_C (A c) m w c h o k) (x : Int32) (m' : Nat → Int32)
    (ha : m' (o * 160 + c * 20 + i) = x) (hb : i < k → m' (h * 160 + c * 20 + i) = x) (hn : ∀ y, y ≠ o * 160 + c * 20 + i → (i < k → y ≠ h * 160 + c * 20 + i) → m' y = m y) : sm_I (sm_up A c i x) m' (upd w (o * 160 + c * 20 + i) x) hm ho cp := by
  intro c' hc'
  by_cases e : c' = c
  · subst e
    refine ⟨h, o, k, eh, eo, ek, ?_⟩
    obtain ⟨h4, o4, k20, hk, h1, h2, h3⟩ := C
    refine ⟨h4, o4, k20, hk, fun i' hi' => ?_, fun i' hi' => ?_, fun i' hi' => ?_⟩
    · by_cases e : i' = i
      · subst e
        rw [ha, sm_ups]
      · rw [sm_upn (by omega), hn _ (by omega) (fun z => ?_), h1 i' hi']
        omega
    · by_cases e : i' = i
      · subst e
        rw [pk_us, sm_ups]
      · rw [sm_upn (by omega), pk_un (by omega), h2 i' hi']
    · by_cases e : i' = i
      · subst e
        rw [hb hi', sm_ups]
      · rw [sm_upn (by omega), hn _ ?_ (fun z => ?_), h3 i' hi']
        · intro z
          have : ¬ h = o := fun z2 => by have := hk z2; omega
          omega
        · omega
  · obtain ⟨h', o', k', eh', eo', ek', C'⟩ := I c' hc'
    refine ⟨h', o', k', eh', eo', ek', ?_⟩
    rw [sm_upc e]
    refine sm_Cf C' (fun g i' hi' => ?_) (fun g i' hi' => ?_)
    · exact hn _ (by omega) (fun _ => by omega)
    · exact pk_un (by omega)
theorem sx_first {post : Int32 → Prop} {g c : Nat} (hp : post (nI (g * 160 + c * 20))) : wpX_firstCell post (nI g) (nI c) := by
  have e : nI g * 160 + nI c * 20 = nI (g * 160 + c * 20) := by
    rw [← nI_add, ← pk_mul, ← pk_mul]
    rfl
  unfold wpX_firstCell
  rw [e]
  exact hp
theorem sx_load {A : Nat → Nat → Int32} {m w hm ho cp : Nat → Int32} (I : sm_I A m w hm ho cp) {c i : Nat} (hc : c < 8) (hi : i < 20) {post : Int32 → Prop} (hp : post (A c i)) : wpX_load post (m, w, hm, ho, cp) (nI c) (nI i) := by
  obtain ⟨h, o, k, eh, eo, ek, h4, o4, k20, hk, h1, h2, h3⟩ := I c hc
  refine ⟨vp_in_nI hc (by decide), ?_⟩
  rw [nI_clamp (by omega), eo]
  refine sx_first ?_
  rw [nI_add]
  refine ⟨vp_in_nI (by omega) (by decide), ?_⟩
  rw [nI_clamp (by omega), h1 i hi]
  exact hp
theorem sx_store {A : Nat → Nat → Int32} {m w hm ho cp : Nat → Int32} (I : sm_I A m w hm ho cp) {c i : Nat} (hc : c < 8) (hi : i < 20) (x : Int32) {post : SX → Prop} (hp : ∀ m' w', sm_I (sm_up A c i x) m' w' hm ho cp → post (m', w', hm, ho, cp)) : wpX_store post (m, w, hm, ho, cp) (nI c) (nI i) x := by
  obtain ⟨h, o, k, eh, eo, ek, C⟩ := I c hc
  have C' := C
  obtain ⟨h4, o4, k20, hk, h1, h2, h3⟩ := C'
  refine ⟨vp_in_nI hc (by decide), ?_⟩
  rw [nI_clamp (n := c) (by omega), eo, ek, eh]
  refine sx_first ?_
  refine nm_r (nI_add _ _) ?_
  rw [nI_clamp (n := o * 160 + c * 20 + i) (by omega)]
  refine ⟨vp_in_nI (by omega) (by decide), nm_e ?_⟩
  refine ⟨vp_in_nI (by omega) (by decide), nm_e ?_⟩
  refine ⟨vp_in_nI hc (by decide), ?_⟩
  refine pk_le k i (fun hki => hp _ _ ?_) (fun hik => ⟨vp_in_nI hc (by decide), sx_first (nm_r (nI_add _ _) ⟨vp_in_nI (by omega) (by decide), nm_e (hp _ _ ?_)⟩)⟩)
  · exact sm_st I hc hi eh eo ek C x _ pk_us (fun z => by omega) (fun y hy _ => pk_un hy)
  · rw [nI_clamp (by omega)]
    refine sm_st I hc hi eh eo ek C x _ ?_ (fun _ => pk_us) (fun y hy hy2 => ?_)
    · have : ¬ h = o := fun z2 => by have := hk z2; omega
      rw [pk_un (by omega), pk_us]
    · rw [pk_un (hy2 hik), pk_un hy]
