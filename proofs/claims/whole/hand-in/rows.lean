section
theorem pk_us {f : Nat → Int32} {k : Nat} {x : Int32} : upd f k x k = x := if_pos rfl
theorem pk_un {f : Nat → Int32} {k j : Nat} {x : Int32} (h : j ≠ k) : upd f k x j = f j := if_neg h
theorem pk_m1 (n : Nat) : nI (n + 1) + (-1) = nI n := by
  rw [← nI_1, Int32.add_assoc, show (1 : Int32) + (-1) = 0 from rfl, Int32.add_zero]
theorem pk_mul (a b : Nat) : nI a * nI b = nI (a * b) := (Int32.ofNat_mul a b).symm
theorem pk_ix (x : Int32) {n : Nat} (hn : n < 2 ^ 31) : x < 0 ∨ nI n ≤ x ∨ ∃ j : Nat, j < n ∧ x = nI j := by
  by_cases h : x < 0
  · exact Or.inl h
  · obtain ⟨j, hj, rfl⟩ := nI_of h
    by_cases h2 : j < n
    · exact Or.inr (Or.inr ⟨j, h2, rfl⟩)
    · exact Or.inr (Or.inl (nI_le (by omega) hj))
theorem pk_le {x y : Int32} {A B : Prop} (a b : Nat) (f : a ≤ b → A) (g : b < a → B) (hx : x = nI a := by rfl) (hy : y = nI b := by rfl) (ha : a < 2 ^ 31 := by omega) (hb : b < 2 ^ 31 := by omega) : (x ≤ y → A) ∧ (¬ x ≤ y → B) := by
  subst hx hy
  rw [nI_leI ha hb]
  exact ⟨f, fun z => g (by omega)⟩
theorem pk_lt {x y : Int32} {A B : Prop} (a b : Nat) (f : a < b → A) (g : b ≤ a → B) (hx : x = nI a := by rfl) (hy : y = nI b := by rfl) (ha : a < 2 ^ 31 := by omega) (hb : b < 2 ^ 31 := by omega) : (x < y → A) ∧ (¬ x < y → B) := by
  subst hx hy
  rw [nI_ltI ha hb]
  exact ⟨f, fun z => g (by omega)⟩
theorem pk_eq {x y : Int32} {A B : Prop} (a b : Nat) (f : a = b → A) (g : a ≠ b → B) (hx : x = nI a := by rfl) (hy : y = nI b := by rfl) (ha : a < 2 ^ 31 := by omega) (hb : b < 2 ^ 31 := by omega) : (x = y → A) ∧ (¬ x = y → B) := by
  subst hx hy
  rw [nI_eq ha hb]
  exact ⟨f, g⟩
theorem pk_in {x : Int32} (n N : Nat) (h : n < N) (hx : x = nI n := by rfl) (hN : N < 2 ^ 31 := by omega) : vp_in x N := by
  subst hx
  exact vp_in_nI h hN
theorem pk_cl {x : Int32} (n : Nat) (hx : x = nI n := by rfl) (h : n < 2 ^ 31 := by omega) : x.toNatClampNeg = n := by
  subst hx
  exact nI_clamp h
theorem pk_tn {n : Nat} (h : n < 2 ^ 32) : (nI n).toBitVec.toNat = n := Nat.mod_eq_of_lt h
theorem pk_and (x : Int32) {m : Int32} (k : Nat) (hm : m.toBitVec.toNat = 2 ^ k - 1) : x &&& m = nI (x.toBitVec.toNat % 2 ^ k) := by
  apply Int32.toBitVec_inj.mp
  apply BitVec.eq_of_toNat_eq
  rw [Int32.toBitVec_and, BitVec.toNat_and, hm, Nat.and_two_pow_sub_one_eq_mod]
  show _ = (BitVec.ofNat 32 _).toNat
  rw [BitVec.toNat_ofNat]
  exact (Nat.mod_eq_of_lt (Nat.lt_of_le_of_lt (Nat.mod_le _ _) x.toBitVec.isLt)).symm
theorem pk_andN {n : Nat} (h : n < 2 ^ 32) {m : Int32} (k : Nat) (hm : m.toBitVec.toNat = 2 ^ k - 1) : nI n &&& m = nI (n % 2 ^ k) := by
  rw [pk_and _ k hm, pk_tn h]
theorem pk_andE (x : Int32) {m : Int32} (k : Nat) (hm : m.toBitVec.toNat = 2 ^ k - 1) : ∃ j : Nat, j < 2 ^ k ∧ x &&& m = nI j := ⟨_, Nat.mod_lt _ (Nat.two_pow_pos k), pk_and x k hm⟩
theorem pk_andIn (x : Int32) {m : Int32} (k : Nat) (hm : m.toBitVec.toNat = 2 ^ k - 1) (hk : k ≤ 30) : vp_in (x &&& m) (2 ^ k) := by
  obtain ⟨j, hj, e⟩ := pk_andE x k hm
  rw [e]
  exact vp_in_nI hj (Nat.lt_of_le_of_lt (Nat.pow_le_pow_right (by decide) hk) (by decide))
theorem pk_shr (a s : Int32) (k : Nat) (hs : (s.toBitVec.smod 32).toNat = k) : (a >>> s).toInt = a.toInt >>> k := by
  show (a.toBitVec.sshiftRight (s.toBitVec.smod 32).toNat).toInt = _
  rw [hs, BitVec.toInt_sshiftRight]
  rfl
theorem pk_shrN {n : Nat} (h : n < 2 ^ 31) (s : Int32) (k : Nat) (hs : (s.toBitVec.smod 32).toNat = k) : nI n >>> s = nI (n / 2 ^ k) := by
  apply Int32.toInt_inj.mp
  have h2 : n / 2 ^ k ≤ n := Nat.div_le_self _ _
  rw [pk_shr _ _ k hs, nI_toInt h, nI_toInt (by omega), Int.shiftRight_eq_div_pow]
  rfl
end
section
/-- one class: h its home, o its holder, k the cells that the home has of it; f its twenty cells -/
def sm_C (f : Nat → Int32) (m w : Nat → Int32) (c h o k : Nat) : Prop :=
  h < 4 ∧ o < 4 ∧ k ≤ 20 ∧ (h = o → k = 0) ∧ (∀ i, i < 20 → m (o * 160 + c * 20 + i) = f i) ∧ (∀ i, i < 20 → w (o * 160 + c * 20 + i) = f i) ∧ (∀ i, i < k → m (h * 160 + c * 20 + i) = f i)
/-- the component's state shows the table A: A c i is cell i of class c -/
def sm_I (A : Nat → Nat → Int32) (m w hm ho cp : Nat → Int32) : Prop :=
  ∀ c, c < 8 → ∃ h o k : Nat, hm c = nI h ∧ ho c = nI o ∧ cp c = nI k ∧ sm_C (A c) m w c h o k
def sm_up (A : Nat → Nat → Int32) (c i : Nat) (x : Int32) : Nat → Nat → Int32 := fun c' i' => if c' = c ∧ i' = i then x else A c' i'
theorem sm_ups {A : Nat → Nat → Int32} {c i : Nat} {x : Int32} : sm_up A c i x c i = x := if_pos ⟨rfl, rfl⟩
theorem sm_upn {A : Nat → Nat → Int32} {c i c' i' : Nat} {x : Int32} (h : ¬ (c' = c ∧ i' = i)) : sm_up A c i x c' i' = A c' i' := if_neg h
theorem sm_upc {A : Nat → Nat → Int32} {c i c' : Nat} {x : Int32} (h : ¬ c' = c) : sm_up A c i x c' = A c' := funext fun _ => if_neg fun z => h z.1
theorem sm_Cf {f m w m' w' : Nat → Int32} {c h o k : Nat} (C : sm_C f m w c h o k) (e1 : ∀ g i, i < 20 → m' (g * 160 + c * 20 + i) = m (g * 160 + c * 20 + i)) (e2 : ∀ g i, i < 20 → w' (g * 160 + c * 20 + i) = w (g * 160 + c * 20 + i)) : sm_C f m' w' c h o k := by
  obtain ⟨h4, o4, k20, hk, h1, h2, h3⟩ := C
  refine ⟨h4, o4, k20, hk, fun i hi => ?_, fun i hi => ?_, fun i hi => ?_⟩
  · rw [e1 o i hi, h1 i hi]
  · rw [e2 o i hi, h2 i hi]
  · rw [e1 h i (by omega), h3 i hi]
theorem sm_st {A : Nat → Nat → Int32} {m w hm ho cp : Nat → Int32} (I : sm_I A m w hm ho cp) {c i h o k : Nat} (hc : c < 8) (hi : i < 20) (eh : hm c = nI h) (eo : ho c = nI o) (ek : cp c = nI k) (C : sm_C (A c) m w c h o k) (x : Int32) (m' : Nat → Int32)
    (ha : m' (o * 160 + c * 20 + i) = x) (hb : i < k → m' (h * 160 + c * 20 + i) = x) (hn : ∀ y, y ≠ o * 160 + c * 20 + i → (i < k → y ≠ h * 160 + c * 20 + i) → m' y = m y) : sm_I (sm_up A c i x) m' (upd w (o * 160 + c * 20 + i) x) hm ho cp := by
  intro c' hc'
  by_cases e : c' = c
  · subst e
    refine ⟨h, o, k, eh, eo, ek, ?_⟩
    obtain ⟨h4, o4, k20, hk, h1, h2, h3⟩ := C
    refine ⟨h4, o4, k20, hk, fun i' hi' => ?_, fun i' hi' => ?_, fun i' hi' => ?_⟩
    · by_cases e : i' = i
      · subst e
        rw [ha, sm_ups]
      · rw [sm_upn (by omega), hn _ (by omega) (fun z => ?_), h1 i' hi']
        omega
    · by_cases e : i' = i
      · subst e
        rw [pk_us, sm_ups]
      · rw [sm_upn (by omega), pk_un (by omega), h2 i' hi']
    · by_cases e : i' = i
      · subst e
        rw [hb hi', sm_ups]
      · rw [sm_upn (by omega), hn _ ?_ (fun z => ?_), h3 i' hi']
        · intro z
          have : ¬ h = o := fun z2 => by have := hk z2; omega
          omega
        · omega
  · obtain ⟨h', o', k', eh', eo', ek', C'⟩ := I c' hc'
    refine ⟨h', o', k', eh', eo', ek', ?_⟩
    rw [sm_upc e]
    refine sm_Cf C' (fun g i' hi' => ?_) (fun g i' hi' => ?_)
    · exact hn _ (by omega) (fun _ => by omega)
    · exact pk_un (by omega)
theorem sx_first {post : Int32 → Prop} {g c : Nat} (hp : post (nI (g * 160 + c * 20))) : wpX_firstCell post (nI g) (nI c) := by
  have e : nI g * 160 + nI c * 20 = nI (g * 160 + c * 20) := by
    rw [← nI_add, ← pk_mul, ← pk_mul]
    rfl
  unfold wpX_firstCell
  rw [e]
  exact hp
theorem sx_load {A : Nat → Nat → Int32} {m w hm ho cp : Nat → Int32} (I : sm_I A m w hm ho cp) {c i : Nat} (hc : c < 8) (hi : i < 20) {post : Int32 → Prop} (hp : post (A c i)) : wpX_load post (m, w, hm, ho, cp) (nI c) (nI i) := by
  obtain ⟨h, o, k, eh, eo, ek, h4, o4, k20, hk, h1, h2, h3⟩ := I c hc
  refine ⟨vp_in_nI hc (by decide), ?_⟩
  rw [nI_clamp (by omega), eo]
  refine sx_first ?_
  rw [nI_add]
  refine ⟨vp_in_nI (by omega) (by decide), ?_⟩
  rw [nI_clamp (by omega), h1 i hi]
  exact hp
theorem sx_store {A : Nat → Nat → Int32} {m w hm ho cp : Nat → Int32} (I : sm_I A m w hm ho cp) {c i : Nat} (hc : c < 8) (hi : i < 20) (x : Int32) {post : SX → Prop} (hp : ∀ m' w', sm_I (sm_up A c i x) m' w' hm ho cp → post (m', w', hm, ho, cp)) : wpX_store post (m, w, hm, ho, cp) (nI c) (nI i) x := by
  obtain ⟨h, o, k, eh, eo, ek, C⟩ := I c hc
  have C' := C
  obtain ⟨h4, o4, k20, hk, h1, h2, h3⟩ := C'
  refine ⟨vp_in_nI hc (by decide), ?_⟩
  rw [nI_clamp (n := c) (by omega), eo, ek, eh]
  refine sx_first ?_
  refine nm_r (nI_add _ _) ?_
  rw [nI_clamp (n := o * 160 + c * 20 + i) (by omega)]
  refine ⟨vp_in_nI (by omega) (by decide), nm_e ?_⟩
  refine ⟨vp_in_nI (by omega) (by decide), nm_e ?_⟩
  refine ⟨vp_in_nI hc (by decide), ?_⟩
  refine pk_le k i (fun hki => hp _ _ ?_) (fun hik => ⟨vp_in_nI hc (by decide), sx_first (nm_r (nI_add _ _) ⟨vp_in_nI (by omega) (by decide), nm_e (hp _ _ ?_)⟩)⟩)
  · exact sm_st I hc hi eh eo ek C x _ pk_us (fun z => by omega) (fun y hy _ => pk_un hy)
  · rw [nI_clamp (by omega)]
    refine sm_st I hc hi eh eo ek C x _ ?_ (fun _ => pk_us) (fun y hy hy2 => ?_)
    · have : ¬ h = o := fun z2 => by have := hk z2; omega
      rw [pk_un (by omega), pk_us]
    · rw [pk_un (hy2 hik), pk_un hy]
end
section
theorem sx_noKey1 {post : Int32 → Prop} {p : Int32} (h : p < 0 ∨ ¬ p < 32) (hp : post 1) : wpX_isNoKey post p := by
  by_cases h0 : p < 0
  · exact br_t h0 hp
  · rcases h with h | h
    · exact absurd h h0
    · exact br_f h0 (br_f h hp)
theorem sx_noKey0 {post : Int32 → Prop} {kk : Nat} (h : kk < 32) (hp : post 0) : wpX_isNoKey post (nI kk) :=
  br_f (nI_pos (by omega)) (br_t (nI_lt (b := 32) h (by decide)) hp)
theorem sm_k7 {kk : Nat} (h : kk < 32) : nI kk &&& 7 = nI (kk % 8) := pk_andN (by omega) 3 (by decide)
theorem sm_k3 {kk : Nat} (h : kk < 32) : nI kk >>> ((3 : Int32) &&& 31) = nI (kk / 8) := pk_shrN (by omega) _ 3 (by decide)
def sm_af (p0 p2 b : Int32) : Int32 := if p0 = 0 then p2 else if p0 = 1 then b + p2 else 0
def sm_an (p0 p2 b : Int32) : Int32 := if p0 = 1 then sm_af p0 p2 b else b
def sm_th (p0 : Int32) : Int32 := if p0 = 2 then 0 else 1
def sm_B1 (A : Nat → Nat → Int32) (kk : Nat) (p0 p2 : Int32) : Nat → Nat → Int32 :=
  sm_up (sm_up A (kk % 8) (kk / 8) (sm_th p0)) (kk % 8) (4 + kk / 8) (sm_af p0 p2 (A (kk % 8) (4 + kk / 8)))
def sm_B (A : Nat → Nat → Int32) (kk j : Nat) (p0 num p2 : Int32) : Nat → Nat → Int32 :=
  sm_up (sm_up (sm_up (sm_B1 A kk p0 p2) (kk % 8) (8 + j) 1) (kk % 8) (12 + j) num) (kk % 8) (16 + j) (sm_an p0 p2 (A (kk % 8) (4 + kk / 8)))
theorem sx_64 {A : Nat → Nat → Int32} {m w hm ho cp : Nat → Int32} (I : sm_I A m w hm ho cp) {c s : Nat} (hc : c < 8) (hs : s < 4) (x1 x6 x7 z0 : Int32) {post : Int32 → SX → Prop} (hp : ∀ m' w', sm_I (sm_up (sm_up A c s z0) c (4 + s) x7) m' w' hm ho cp → post (if x1 = 1 then x7 else x6) (m', w', hm, ho, cp)) : wX_carryOut_64 post x1 (nI c) (nI s) x6 x7 z0 (0 + nI s) (nI c) m w hm ho cp := by
  have e0 : (0 : Int32) + nI s = nI s := Int32.zero_add _
  have e4 : (4 : Int32) + nI s = nI (4 + s) := nI_add 4 s
  unfold wX_carryOut_64
  rw [e0, e4]
  refine sx_store I hc (by omega) _ (fun m1 w1 I1 => ?_)
  refine sx_store I1 hc (by omega) _ (fun m2 w2 I2 => ?_)
  have q := hp m2 w2 I2
  by_cases e : x1 = 1
  · rw [if_pos e] at q
    exact br_t e q
  · rw [if_neg e] at q
    exact br_f e q
theorem sx_47 {A : Nat → Nat → Int32} {m w hm ho cp : Nat → Int32} (I : sm_I A m w hm ho cp) {c s : Nat} (hc : c < 8) (hs : s < 4) (x1 x6 x7 : Int32) {post : Int32 → SX → Prop} (hp : ∀ m' w', sm_I (sm_up (sm_up A c s (sm_th x1)) c (4 + s) x7) m' w' hm ho cp → post (if x1 = 1 then x7 else x6) (m', w', hm, ho, cp)) : wX_carryOut_47 post x1 (nI c) (nI s) x6 x7 m w hm ho cp := by
  unfold sm_th at hp
  by_cases e : x1 = 2
  · rw [if_pos e] at hp
    exact br_t e (sx_64 I hc hs x1 x6 x7 0 hp)
  · rw [if_neg e] at hp
    exact br_f e (sx_64 I hc hs x1 x6 x7 1 hp)
theorem sx_carry {A : Nat → Nat → Int32} {m w hm ho cp : Nat → Int32} (I : sm_I A m w hm ho cp) {kk : Nat} (hkk : kk < 32) (p0 p2 : Int32) {post : Int32 → SX → Prop} (hp : ∀ m' w', sm_I (sm_B1 A kk p0 p2) m' w' hm ho cp → post (sm_an p0 p2 (A (kk % 8) (4 + kk / 8))) (m', w', hm, ho, cp)) : wpX_carryOut post (m, w, hm, ho, cp) p0 (nI kk) p2 := by
  have e4 : (4 : Int32) + nI (kk / 8) = nI (4 + kk / 8) := nI_add 4 _
  refine nm_r (sm_k7 hkk) (nm_r (sm_k3 hkk) ?_)
  rw [e4]
  refine sx_load I (by omega) (by omega) ?_
  unfold sm_B1 sm_an sm_af at hp
  by_cases e : p0 = 0
  · rw [if_pos e] at hp
    exact br_t e (sx_47 I (by omega) (by omega) _ _ _ hp)
  · rw [if_neg e] at hp
    by_cases e1 : p0 = 1
    · rw [if_pos e1] at hp
      exact br_f e (br_t e1 (nm_e (sx_47 I (by omega) (by omega) _ _ _ hp)))
    · rw [if_neg e1] at hp
      exact br_f e (br_f e1 (sx_47 I (by omega) (by omega) _ _ _ hp))
theorem sx_78 {A : Nat → Nat → Int32} {m w hm ho cp : Nat → Int32} (I : sm_I A m w hm ho cp) {kk j : Nat} (hkk : kk < 32) (hj : j < 4) (x1 x3 x5 : Int32) {post : Int32 → SX → Prop} (hp : ∀ m' w', sm_I (sm_B A kk j x1 x3 x5) m' w' hm ho cp → post (sm_an x1 x5 (A (kk % 8) (4 + kk / 8))) (m', w', hm, ho, cp)) : wX_request_78 post x1 (nI j) x3 (nI kk) x5 (nI (kk % 8)) m w hm ho cp := by
  have e8 : (8 : Int32) + nI j = nI (8 + j) := nI_add 8 j
  have e12 : (12 : Int32) + nI j = nI (12 + j) := nI_add 12 j
  have e16 : (16 : Int32) + nI j = nI (16 + j) := nI_add 16 j
  unfold wX_request_78
  rw [e8, e12, e16]
  refine sx_carry I hkk _ _ (fun m1 w1 I1 => ?_)
  refine sx_store I1 (by omega) (by omega) _ (fun m2 w2 I2 => ?_)
  refine sx_store I2 (by omega) (by omega) _ (fun m3 w3 I3 => ?_)
  refine sx_store I3 (by omega) (by omega) _ (fun m4 w4 I4 => ?_)
  exact hp m4 w4 I4
theorem sx_bad {m w hm ho cp : Nat → Int32} {p0 p1 p2 p3 p4 : Int32} {post : Int32 → SX → Prop} (h : p1 < 0 ∨ 4 ≤ p1 ∨ p3 < 0 ∨ ¬ p3 < 32) (hp : post (-2) (m, w, hm, ho, cp)) : wpX_request post (m, w, hm, ho, cp) p0 p1 p2 p3 p4 := by
  by_cases h0 : p1 < 0
  · exact br_t h0 hp
  · by_cases h1 : 4 ≤ p1
    · exact br_f h0 (br_t h1 hp)
    · refine br_f h0 (br_f h1 (sx_noKey1 ?_ (br_f (by decide) hp)))
      rcases h with h | h | h
      · exact absurd h h0
      · exact absurd h h1
      · exact h
theorem sx_req {A : Nat → Nat → Int32} {m w hm ho cp : Nat → Int32} (I : sm_I A m w hm ho cp) {kk j : Nat} (hkk : kk < 32) (hj : j < 4) (p0 p2 p4 : Int32) {post : Int32 → SX → Prop}
    (h1 : A (kk % 8) (8 + j) = 1 → A (kk % 8) (12 + j) = p2 → post (A (kk % 8) (16 + j)) (m, w, hm, ho, cp))
    (h2 : A (kk % 8) (8 + j) = 1 → ¬ A (kk % 8) (12 + j) = p2 → ¬ A (kk % 8) (12 + j) ≤ p2 → post (-1) (m, w, hm, ho, cp))
    (h3 : (A (kk % 8) (8 + j) = 1 → ¬ A (kk % 8) (12 + j) = p2 ∧ A (kk % 8) (12 + j) ≤ p2) → ∀ m' w', sm_I (sm_B A kk j p0 p2 p4) m' w' hm ho cp → post (sm_an p0 p4 (A (kk % 8) (4 + kk / 8))) (m', w', hm, ho, cp)) : wpX_request post (m, w, hm, ho, cp) p0 (nI j) p2 (nI kk) p4 := by
  have e8 : (8 : Int32) + nI j = nI (8 + j) := nI_add 8 j
  have e12 : (12 : Int32) + nI j = nI (12 + j) := nI_add 12 j
  have e16 : (16 : Int32) + nI j = nI (16 + j) := nI_add 16 j
  refine br_f (nI_pos (by omega)) (br_f (nI_ge (b := 4) hj (by decide)) (sx_noKey0 hkk (br_t rfl (nm_r (sm_k7 hkk) ?_))))
  rw [e8, e12, e16]
  refine sx_load I (by omega) (by omega) ?_
  by_cases z1 : A (kk % 8) (8 + j) = 1
  · refine br_t z1 (sx_load I (by omega) (by omega) ?_)
    by_cases z2 : A (kk % 8) (12 + j) = p2
    · exact br_t z2 (sx_load I (by omega) (by omega) (h1 z1 z2))
    · by_cases z3 : A (kk % 8) (12 + j) ≤ p2
      · exact br_f z2 (br_t z3 (sx_78 I hkk hj _ _ _ (h3 (fun _ => ⟨z2, z3⟩))))
      · exact br_f z2 (br_f z3 (h2 z1 z2 z3))
  · exact br_f z1 (sx_78 I hkk hj _ _ _ (h3 (fun z => absurd z z1)))
theorem sx_getn {m w hm ho cp : Nat → Int32} {p : Int32} {post : Int32 → Prop} (h : p < 0 ∨ ¬ p < 32) (hp : post 0) : wpX_get post (m, w, hm, ho, cp) p := by
  unfold wpX_get
  exact sx_noKey1 h (br_f (by decide) hp)
theorem sx_hasn {m w hm ho cp : Nat → Int32} {p : Int32} {post : Int32 → Prop} (h : p < 0 ∨ ¬ p < 32) (hp : post 0) : wpX_has post (m, w, hm, ho, cp) p := by
  unfold wpX_has
  exact sx_noKey1 h (br_f (by decide) hp)
theorem sx_get {A : Nat → Nat → Int32} {m w hm ho cp : Nat → Int32} (I : sm_I A m w hm ho cp) {kk : Nat} (hkk : kk < 32) {post : Int32 → Prop} (hp : post (A (kk % 8) (4 + kk / 8))) : wpX_get post (m, w, hm, ho, cp) (nI kk) := by
  have e4 : (4 : Int32) + nI (kk / 8) = nI (4 + kk / 8) := nI_add 4 _
  unfold wpX_get
  refine sx_noKey0 hkk (br_t rfl ?_)
  rw [sm_k7 hkk, sm_k3 hkk, e4]
  exact sx_load I (by omega) (by omega) hp
theorem sx_has {A : Nat → Nat → Int32} {m w hm ho cp : Nat → Int32} (I : sm_I A m w hm ho cp) {kk : Nat} (hkk : kk < 32) {post : Int32 → Prop} (hp : post (if A (kk % 8) (kk / 8) = 1 then 1 else 0)) : wpX_has post (m, w, hm, ho, cp) (nI kk) := by
  have e0 : (0 : Int32) + nI (kk / 8) = nI (kk / 8) := Int32.zero_add _
  unfold wpX_has
  refine sx_noKey0 hkk (br_t rfl ?_)
  rw [sm_k7 hkk, sm_k3 hkk, e0]
  refine sx_load I (by omega) (by omega) ?_
  by_cases z : A (kk % 8) (kk / 8) = 1
  · rw [if_pos z] at hp
    exact br_t z hp
  · rw [if_neg z] at hp
    exact br_f z hp
theorem sx_size {A : Nat → Nat → Int32} {m w hm ho cp : Nat → Int32} (I : sm_I A m w hm ho cp) {c : Nat} (hc : c < 8) {p : Int32} (ep : p &&& 7 = nI c) {post : Int32 → Prop} (hp : post (A c 0 + A c 1 + A c 2 + A c 3)) : wpX_size post (m, w, hm, ho, cp) p := by
  have st : ∀ (n j : Nat) (x : Int32), j < 4 → wX_size_4 post p m w hm ho cp n (x + A c j) (nI (j + 1)) → wX_size_4 post p m w hm ho cp (n + 1) x (nI j) := by
    intro n j x hj hn
    have e0 : (0 : Int32) + nI j = nI j := Int32.zero_add _
    refine br_f (nI_ge (b := 4) hj (by decide)) ?_
    rw [ep, e0]
    exact sx_load I hc (by omega) (nm_e (nm_r (nI_1 j) hn))
  refine ⟨5, st 4 0 0 (by omega) (st 3 1 _ (by omega) (st 2 2 _ (by omega) (st 1 3 _ (by omega) (br_t (nI_le (a := 4) (b := 4) (by omega) (by decide)) ?_))))⟩
  rw [Int32.zero_add]
  exact hp
end
section
theorem sx_ctm {m w hm ho cp : Nat → Int32} {post : Int32 → Prop} (h0 : post (-1)) (h1 : ∀ c, c < 8 → ¬ ho c = hm c → post (nI c)) : wpX_classToMove post (m, w, hm, ho, cp) := by
  have key : ∀ d j : Nat, j + d = 8 → wX_classToMove_2 post m w hm ho cp (d + 1) (nI j) := by
    intro d
    induction d with
    | zero => intro j hj; exact br_t (nI_le (a := 8) (by omega) (by omega)) h0
    | succ d ih =>
      intro j hj
      have hi : vp_in (nI j) 8 := vp_in_nI (by omega) (by decide)
      refine br_f (nI_ge (b := 8) (by omega) (by decide)) ⟨hi, hi, ?_⟩
      rw [nI_clamp (by omega)]
      by_cases z : ho j = hm j
      · exact br_t z (nm_r (nI_1 j) (ih (j + 1) (by omega)))
      · exact br_f z (h1 j (by omega) z)
  exact ⟨9, key 8 0 rfl⟩
theorem sx_t13 {m w hm ho cp : Nat → Int32} {b c : Nat} (hb : b + 20 ≤ 640) (hc : c < 8) {post : SX → Prop} (hend : ∀ w' : Nat → Int32, (∀ y, w' y = if b ≤ y ∧ y < b + 20 then m y else w y) → post (m, w', hm, upd ho c (hm c), upd cp c 0)) : wX_takeOver_13 post (nI c) (nI b) 21 0 m w hm ho cp := by
  have key : ∀ (d j : Nat) (w' : Nat → Int32), j + d = 20 → (∀ y, w' y = if b ≤ y ∧ y < b + j then m y else w y) → wX_takeOver_13 post (nI c) (nI b) (d + 1) (nI j) m w' hm ho cp := by
    intro d
    have hi : vp_in (nI c) 8 := vp_in_nI (by omega) (by decide)
    induction d with
    | zero =>
      intro j w' hj hw
      have ej : j = 20 := by omega
      subst ej
      refine br_t (nI_le (a := 20) (b := 20) (by omega) (by omega)) ⟨hi, hi, ?_⟩
      rw [nI_clamp (by omega)]
      exact nm_e ⟨hi, nm_e (hend w' hw)⟩
    | succ d ih =>
      intro j w' hj hw
      have hv : vp_in (nI (b + j)) 640 := vp_in_nI (by omega) (by decide)
      refine br_f (nI_ge (b := 20) (by omega) (by decide)) ?_
      rw [nI_add]
      refine ⟨hv, hv, ?_⟩
      rw [nI_clamp (by omega)]
      refine nm_e (nm_r (nI_1 j) (ih (j + 1) _ (by omega) (fun y => ?_)))
      by_cases e : y = b + j
      · subst e
        rw [pk_us, if_pos (by omega)]
      · rw [pk_un e, hw y]
        by_cases z : b ≤ y ∧ y < b + j
        · rw [if_pos z, if_pos (by omega)]
        · rw [if_neg z, if_neg (by omega)]
  refine key 20 0 w (by omega) (fun y => ?_)
  rw [if_neg (by omega)]
theorem sm_take {A : Nat → Nat → Int32} {m w hm ho cp : Nat → Int32} (I : sm_I A m w hm ho cp) {c h o : Nat} (hc : c < 8) (eh : hm c = nI h) (C : sm_C (A c) m w c h o 20) (w' : Nat → Int32) (hw : ∀ y, w' y = if h * 160 + c * 20 ≤ y ∧ y < h * 160 + c * 20 + 20 then m y else w y) : sm_I A m w' hm (upd ho c (hm c)) (upd cp c 0) := by
  intro c' hc'
  by_cases e : c' = c
  · subst e
    obtain ⟨h4, o4, k20, hk, h1, h2, h3⟩ := C
    refine ⟨h, h, 0, eh, ?_, ?_, h4, h4, by omega, fun _ => rfl, h3, fun i hi => ?_, fun i hi => by omega⟩
    · rw [pk_us]; exact eh
    · rw [pk_us, nI_0]
    · rw [hw, if_pos (by omega)]; exact h3 i hi
  · obtain ⟨h', o', k', eh', eo', ek', C'⟩ := I c' hc'
    refine ⟨h', o', k', eh', ?_, ?_, sm_Cf C' (fun _ _ _ => rfl) (fun g i hi => ?_)⟩
    · rw [pk_un e]; exact eo'
    · rw [pk_un e]; exact ek'
    · rw [hw, if_neg (by omega)]
theorem sx_take {A : Nat → Nat → Int32} {m w hm ho cp : Nat → Int32} (I : sm_I A m w hm ho cp) {c h o : Nat} (hc : c < 8) (eh : hm c = nI h) (C : sm_C (A c) m w c h o 20) {post : SX → Prop} (hp : ∀ w' ho' cp', sm_I A m w' hm ho' cp' → post (m, w', hm, ho', cp')) : wpX_takeOver post (m, w, hm, ho, cp) (nI c) := by
  have h4 : h < 4 := C.1
  refine ⟨vp_in_nI hc (by decide), ?_⟩
  rw [nI_clamp (by omega), eh]
  refine sx_first ⟨21, sx_t13 (by omega) hc (fun w' hw => hp _ _ _ ?_)⟩
  exact sm_take I hc eh C w' hw
theorem sm_move {A : Nat → Nat → Int32} {m w hm ho cp : Nat → Int32} (I : sm_I A m w hm ho cp) {c h o k : Nat} (hc : c < 8) (eh : hm c = nI h) (eo : ho c = nI o) (C : sm_C (A c) m w c h o k) (hk : k < 20) (hne : ¬ h = o) : sm_I A (upd m (h * 160 + c * 20 + k) (A c k)) w hm ho (upd cp c (nI (k + 1))) := by
  intro c' hc'
  by_cases e : c' = c
  · subst e
    obtain ⟨h4, o4, k20, hk0, h1, h2, h3⟩ := C
    refine ⟨h, o, k + 1, eh, eo, pk_us, h4, o4, by omega, fun z => absurd z hne, fun i hi => ?_, h2, fun i hi => ?_⟩
    · rw [pk_un (by omega)]; exact h1 i hi
    · by_cases e : i = k
      · subst e
        exact pk_us
      · rw [pk_un (by omega)]; exact h3 i (by omega)
  · obtain ⟨h', o', k', eh', eo', ek', C'⟩ := I c' hc'
    refine ⟨h', o', k', eh', eo', ?_, sm_Cf C' (fun g i hi => ?_) (fun _ _ _ => rfl)⟩
    · rw [pk_un e]; exact ek'
    · exact pk_un (by omega)
theorem sx_move {A : Nat → Nat → Int32} {m w hm ho cp : Nat → Int32} (I : sm_I A m w hm ho cp) {c : Nat} (hc : c < 8) (hno : ¬ ho c = hm c) {post : SX → Prop} (hp : ∀ m' w' ho' cp', sm_I A m' w' hm ho' cp' → post (m', w', hm, ho', cp')) : wpX_moveOneStep post (m, w, hm, ho, cp) (nI c) := by
  obtain ⟨h, o, k, eh, eo, ek, C⟩ := I c hc
  have hi : vp_in (nI c) 8 := vp_in_nI hc (by decide)
  have hne : ¬ h = o := fun z => hno (by rw [eo, eh, z])
  have h4 : h < 4 := C.1
  have k20 : k ≤ 20 := C.2.2.1
  refine ⟨hi, ?_⟩
  rw [nI_clamp (n := c) (by omega), eh]
  refine nm_r ek ?_
  refine pk_lt k 20 (fun hk => ⟨hi, ?_⟩) (fun hk => ?_)
  · refine sx_first (nm_r (nI_add _ _) ?_)
    refine sx_load I hc hk ⟨vp_in_nI (by omega) (by decide), nm_e ⟨hi, nm_e ?_⟩⟩
    rw [nI_1 k, nI_clamp (by omega)]
    exact hp _ _ _ _ (sm_move I hc eh eo C hk hne)
  · have ek2 : k = 20 := by omega
    subst ek2
    exact sx_take I hc eh C (fun w' ho' cp' I' => hp _ _ _ _ I')
theorem sx_work {A : Nat → Nat → Int32} {m w hm ho cp : Nat → Int32} (I : sm_I A m w hm ho cp) (p : Int32) {post : SX → Prop} (hp : ∀ m' w' ho' cp', sm_I A m' w' hm ho' cp' → post (m', w', hm, ho', cp')) : wpX_work post (m, w, hm, ho, cp) p := by
  by_cases h0 : p < 0
  · exact ⟨1, br_t (Int32.le_of_lt h0) (hp _ _ _ _ I)⟩
  · obtain ⟨n, hn, rfl⟩ := nI_of h0
    have key : ∀ (d j : Nat) (m w ho cp : Nat → Int32), j + d = n → sm_I A m w hm ho cp → wX_work_2 post (nI n) (d + 1) (nI j) m w hm ho cp := by
      intro d
      induction d with
      | zero => intro j m w ho cp hj I; exact br_t (nI_le (by omega) (by omega)) (hp _ _ _ _ I)
      | succ d ih =>
        intro j m w ho cp hj I
        refine br_f (nI_ge (by omega) hn) ?_
        refine sx_ctm (br_t rfl (hp _ _ _ _ I)) (fun c hc hne => br_f ?_ (sx_move I hc hne (fun m' w' ho' cp' I' => nm_r (nI_1 j) (ih (j + 1) m' w' ho' cp' (by omega) I'))))
        exact fun z => nI_pos (n := c) (by omega) (by rw [z]; decide)
    exact ⟨n + 1, key n 0 m w ho cp (by omega) I⟩
theorem sx_l48 {m w hm ho cp : Nat → Int32} {g : Nat} {post : SX → Prop} (hend : ∀ cp' : Nat → Int32, (∀ c, cp' c = if c < 8 ∧ hm c = nI g then 0 else cp c) → post (m, w, hm, ho, cp')) : wX_lose_48 post (nI g) 9 0 m w hm ho cp := by
  have key : ∀ (d j : Nat) (cp' : Nat → Int32), j + d = 8 → (∀ c, cp' c = if c < j ∧ hm c = nI g then 0 else cp c) → wX_lose_48 post (nI g) (d + 1) (nI j) m w hm ho cp' := by
    intro d
    induction d with
    | zero =>
      intro j cp' hj hw
      have ej : j = 8 := by omega
      subst ej
      exact br_t (nI_le (a := 8) (b := 8) (by omega) (by omega)) (hend cp' hw)
    | succ d ih =>
      intro j cp' hj hw
      have hi : vp_in (nI j) 8 := vp_in_nI (by omega) (by decide)
      refine br_f (nI_ge (b := 8) (by omega) (by decide)) ⟨hi, ?_⟩
      rw [nI_clamp (by omega)]
      by_cases z : hm j = nI g
      · refine br_t z ⟨hi, nm_e (nm_r (nI_1 j) (ih (j + 1) _ (by omega) (fun c => ?_)))⟩
        by_cases e : c = j
        · subst e
          rw [pk_us, if_pos ⟨by omega, z⟩]
        · rw [pk_un e, hw c]
          by_cases y : c < j
          · by_cases y2 : hm c = nI g
            · rw [if_pos ⟨y, y2⟩, if_pos ⟨by omega, y2⟩]
            · rw [if_neg (fun q => y2 q.2), if_neg (fun q => y2 q.2)]
          · rw [if_neg (fun q => y q.1), if_neg (fun q => by have := q.1; omega)]
      · refine br_f z (nm_r (nI_1 j) (ih (j + 1) _ (by omega) (fun c => ?_)))
        rw [hw c]
        by_cases y2 : hm c = nI g
        · have e : c ≠ j := fun q => z (q ▸ y2)
          by_cases y : c < j
          · rw [if_pos ⟨y, y2⟩, if_pos ⟨by omega, y2⟩]
          · rw [if_neg (fun q => y q.1), if_neg (fun q => by have := q.1; omega)]
        · rw [if_neg (fun q => y2 q.2), if_neg (fun q => y2 q.2)]
  refine key 8 0 cp (by omega) (fun y => ?_)
  rw [if_neg (fun q => by have := q.1; omega)]
theorem sx_l13 {m w hm ho cp : Nat → Int32} {b : Nat} (hb : b + 160 ≤ 640) {x2 : Int32} {post : SX → Prop} (hend : ∀ m' : Nat → Int32, (∀ y, m' y = if b ≤ y ∧ y < b + 160 then w y else m y) → ∃ n, wX_lose_48 post x2 n 0 m' w hm ho cp) : wX_lose_13 post x2 (nI b) 161 0 m w hm ho cp := by
  have key : ∀ (d j : Nat) (m' : Nat → Int32), j + d = 160 → (∀ y, m' y = if b ≤ y ∧ y < b + j then w y else m y) → wX_lose_13 post x2 (nI b) (d + 1) (nI j) m' w hm ho cp := by
    intro d
    induction d with
    | zero =>
      intro j m' hj hw
      have ej : j = 160 := by omega
      subst ej
      exact br_t (nI_le (a := 160) (b := 160) (by omega) (by omega)) (hend m' hw)
    | succ d ih =>
      intro j m' hj hw
      have hv : vp_in (nI (b + j)) 640 := vp_in_nI (by omega) (by decide)
      refine br_f (nI_ge (b := 160) (by omega) (by decide)) ?_
      rw [nI_add]
      refine ⟨hv, hv, ?_⟩
      rw [nI_clamp (by omega)]
      refine nm_e (nm_r (nI_1 j) (ih (j + 1) _ (by omega) (fun y => ?_)))
      by_cases e : y = b + j
      · subst e
        rw [pk_us, if_pos (by omega)]
      · rw [pk_un e, hw y]
        by_cases z : b ≤ y ∧ y < b + j
        · rw [if_pos z, if_pos (by omega)]
        · rw [if_neg z, if_neg (by omega)]
  refine key 160 0 m (by omega) (fun y => ?_)
  rw [if_neg (by omega)]
theorem sm_lose {A : Nat → Nat → Int32} {m w hm ho cp : Nat → Int32} (I : sm_I A m w hm ho cp) {g : Nat} (hg : g < 4) (m' cp' : Nat → Int32) (e1 : ∀ y, m' y = if g * 160 ≤ y ∧ y < g * 160 + 160 then w y else m y) (e2 : ∀ c, cp' c = if c < 8 ∧ hm c = nI g then 0 else cp c) : sm_I A m' w hm ho cp' := by
  intro c hc
  obtain ⟨h, o, k, eh, eo, ek, h4, o4, k20, hk, h1, h2, h3⟩ := I c hc
  have hm1 : ∀ i, i < 20 → m' (o * 160 + c * 20 + i) = A c i := by
    intro i hi
    rw [e1]
    by_cases z : o = g
    · subst z
      rw [if_pos (by omega)]; exact h2 i hi
    · rw [if_neg (by omega)]; exact h1 i hi
  by_cases z : h = g
  · subst z
    refine ⟨h, o, 0, eh, eo, ?_, h4, o4, by omega, fun _ => rfl, hm1, h2, fun i hi => by omega⟩
    rw [e2, if_pos ⟨hc, eh⟩, nI_0]
  · refine ⟨h, o, k, eh, eo, ?_, h4, o4, k20, hk, hm1, h2, fun i hi => ?_⟩
    · rw [e2, if_neg (fun q => ?_)]
      · exact ek
      · have q2 := q.2
        rw [eh, nI_eq (by omega) (by omega)] at q2
        exact z q2
    · rw [e1, if_neg (by omega)]; exact h3 i hi
theorem sx_lose {A : Nat → Nat → Int32} {m w hm ho cp : Nat → Int32} (I : sm_I A m w hm ho cp) (p : Int32) {post : SX → Prop} (hp : ∀ m' w' ho' cp', sm_I A m' w' hm ho' cp' → post (m', w', hm, ho', cp')) : wpX_lose post (m, w, hm, ho, cp) p := by
  obtain ⟨g, hg, eg⟩ := pk_andE p (m := 3) 2 (by decide)
  have e160 : nI g * 160 = nI (g * 160) := pk_mul g 160
  refine nm_r eg (nm_r e160 ⟨161, sx_l13 (by omega) (fun m' e1 => ⟨9, sx_l48 (fun cp' e2 => hp _ _ _ _ ?_)⟩)⟩)
  exact sm_lose I hg m' cp' e1 e2
theorem sm_us {f : Nat → Int32} {c : Nat} : upd f c (f c) = f := by
  funext y
  by_cases e : y = c
  · subst e
    exact pk_us
  · exact pk_un e
theorem sm_as {A : Nat → Nat → Int32} {m w hm ho cp : Nat → Int32} (I : sm_I A m w hm ho cp) {c g : Nat} (hg : g < 4) : sm_I A m w (upd hm c (nI g)) ho (upd cp c 0) := by
  intro c' hc'
  obtain ⟨h, o, k, eh, eo, ek, C⟩ := I c' hc'
  by_cases e : c' = c
  · subst e
    obtain ⟨h4, o4, k20, hk, h1, h2, h3⟩ := C
    exact ⟨g, o, 0, pk_us, eo, by rw [pk_us, nI_0], hg, o4, by omega, fun _ => rfl, h1, h2, fun i hi => by omega⟩
  · exact ⟨h, o, k, by rw [pk_un e]; exact eh, eo, by rw [pk_un e]; exact ek, C⟩
theorem sx_assign {A : Nat → Nat → Int32} {m w hm ho cp : Nat → Int32} (I : sm_I A m w hm ho cp) {c g : Nat} (hc : c < 8) (hg : g < 4) {p0 p1 : Int32} (e0 : p0 &&& 7 = nI c) (e1 : p1 &&& 3 = nI g) {post : Int32 → SX → Prop} (hp : ∀ cp', sm_I A m w (upd hm c (nI g)) ho cp' → post (hm c) (m, w, upd hm c (nI g), ho, cp')) : wpX_assign post (m, w, hm, ho, cp) p0 p1 := by
  have hi : vp_in (nI c) 8 := vp_in_nI hc (by decide)
  refine nm_r e0 ⟨hi, ?_⟩
  rw [nI_clamp (by omega)]
  refine nm_e (nm_r e1 ?_)
  by_cases z : nI g = hm c
  · refine br_t z ?_
    have q := hp cp
    rw [z, sm_us] at q
    exact q I
  · exact br_f z ⟨hi, nm_e ⟨hi, nm_e (hp _ (sm_as I hg))⟩⟩
def sm_h0 (j : Nat) : Nat → Int32 := fun x => if x < j then nI (x % 4) else 0
theorem sm_h0s (j : Nat) : upd (sm_h0 j) j (nI (j % 4)) = sm_h0 (j + 1) := by
  funext y
  unfold sm_h0
  by_cases e : y = j
  · subst e
    rw [pk_us, if_pos (by omega)]
  · rw [pk_un e]
    by_cases z : y < j
    · rw [if_pos z, if_pos (by omega)]
    · rw [if_neg z, if_neg (by omega)]
theorem sm_h00 : sm_h0 0 = fun _ => 0 := by
  funext y
  exact if_neg (by omega)
theorem sx_init {post : SX → Prop} (hp : post (fun _ => 0, fun _ => 0, sm_h0 8, sm_h0 8, fun _ => 0)) : wpX_init post := by
  have key : ∀ d j : Nat, j + d = 8 → wX_init_48 post (d + 1) (nI j) (fun _ => 0) (fun _ => 0) (sm_h0 j) (sm_h0 j) (fun _ => 0) := by
    intro d
    induction d with
    | zero =>
      intro j hj
      have ej : j = 8 := by omega
      subst ej
      exact br_t (nI_le (a := 8) (b := 8) (by omega) (by omega)) hp
    | succ d ih =>
      intro j hj
      have hi : vp_in (nI j) 8 := vp_in_nI (by omega) (by decide)
      have e3 : nI j &&& 3 = nI (j % 4) := pk_andN (by omega) 2 (by decide)
      refine br_f (nI_ge (b := 8) (by omega) (by decide)) ?_
      rw [nI_clamp (by omega), e3]
      exact ⟨hi, nm_r (sm_h0s j) ⟨hi, nm_r (sm_h0s j) (nm_r (nI_1 j) (ih (j + 1) (by omega)))⟩⟩
  have q := key 8 0 rfl
  rw [sm_h00] at q
  exact ⟨9, q⟩
theorem sm_I0 : sm_I (fun _ _ => 0) (fun _ => 0) (fun _ => 0) (sm_h0 8) (sm_h0 8) (fun _ => 0) := by
  intro c hc
  exact ⟨c % 4, c % 4, 0, if_pos hc, if_pos hc, nI_0.symm, by omega, by omega, by omega, fun _ => rfl, fun _ _ => rfl, fun _ _ => rfl, fun _ _ => rfl⟩
end
section
/-- the reference's arrays hold the table A: key kk is slot kk / 8 of class kk % 8 -/
def sm_R (A : Nat → Nat → Int32) (there value rem num ans : Nat → Int32) : Prop :=
  (∀ kk, kk < 32 → A (kk % 8) (kk / 8) = there kk ∧ (there kk = 0 ∨ there kk = 1) ∧ A (kk % 8) (4 + kk / 8) = if there kk = 0 then 0 else value kk) ∧
  (∀ c j, c < 8 → j < 4 → A c (8 + j) = rem (4 * c + j) ∧ (rem (4 * c + j) = 0 ∨ rem (4 * c + j) = 1) ∧ A c (12 + j) = num (4 * c + j) ∧ A c (16 + j) = ans (4 * c + j))
theorem sm_R0 : sm_R (fun _ _ => 0) (fun _ => 0) (fun _ => 0) (fun _ => 0) (fun _ => 0) (fun _ => 0) :=
  ⟨fun _ _ => ⟨rfl, Or.inl rfl, rfl⟩, fun _ _ _ _ => ⟨rfl, Or.inl rfl, rfl, rfl⟩⟩
theorem sm_RB {A : Nat → Nat → Int32} {there value rem num ans : Nat → Int32} (R : sm_R A there value rem num ans) {kk j : Nat} (hkk : kk < 32) (hj : j < 4) (p0 p2 p4 : Int32) (there' value' : Nat → Int32)
    (ht : there' kk = sm_th p0) (htn : ∀ y, y ≠ kk → there' y = there y) (hv : sm_af p0 p4 (A (kk % 8) (4 + kk / 8)) = if there' kk = 0 then 0 else value' kk) (hvn : ∀ y, y ≠ kk → value' y = value y) :
    sm_R (sm_B A kk j p0 p2 p4) there' value' (upd rem (4 * (kk % 8) + j) 1) (upd num (4 * (kk % 8) + j) p2) (upd ans (4 * (kk % 8) + j) (sm_an p0 p4 (A (kk % 8) (4 + kk / 8)))) := by
  refine ⟨fun k2 hk2 => ?_, fun c i hc hi => ?_⟩
  · unfold sm_B
    rw [sm_upn (by omega), sm_upn (by omega), sm_upn (by omega), sm_upn (by omega), sm_upn (by omega), sm_upn (by omega)]
    unfold sm_B1
    by_cases e : k2 = kk
    · subst e
      rw [sm_upn (by omega), sm_ups, sm_ups]
      refine ⟨ht.symm, ?_, hv⟩
      rw [ht]
      unfold sm_th
      by_cases z : p0 = 2
      · exact Or.inl (if_pos z)
      · exact Or.inr (if_neg z)
    · rw [sm_upn (by omega), sm_upn (by omega), sm_upn (by omega), sm_upn (by omega), htn k2 e, hvn k2 e]
      exact R.1 k2 hk2
  · obtain ⟨r1, r2, r3, r4⟩ := R.2 c i hc hi
    unfold sm_B
    by_cases e : 4 * c + i = 4 * (kk % 8) + j
    · have ec : c = kk % 8 := by omega
      have ei : i = j := by omega
      subst ec
      subst ei
      rw [sm_upn (by omega), sm_upn (by omega), sm_ups, sm_upn (by omega), sm_ups, sm_ups, pk_us, pk_us, pk_us]
      exact ⟨rfl, Or.inr rfl, rfl, rfl⟩
    · unfold sm_B1
      rw [sm_upn (by omega), sm_upn (by omega), sm_upn (by omega), sm_upn (by omega), sm_upn (by omega), sm_upn (by omega), sm_upn (by omega), sm_upn (by omega), sm_upn (by omega), sm_upn (by omega), sm_upn (by omega), sm_upn (by omega), sm_upn (by omega), sm_upn (by omega), sm_upn (by omega), pk_un e, pk_un e, pk_un e]
      exact ⟨r1, r2, r3, r4⟩
theorem sy_bad1 {post : Int32 → Prop} {p0 p1 : Int32} (h : p0 < 0 ∨ 3 < p0 ∨ p1 < 0 ∨ ¬ p1 ≤ 31) (hp : post 1) : wpY_bad post p0 p1 := by
  by_cases h0 : p0 < 0
  · exact br_t h0 hp
  · by_cases h1 : 3 < p0
    · exact br_f h0 (br_t h1 hp)
    · by_cases h2 : p1 < 0
      · exact br_f h0 (br_f h1 (br_t h2 hp))
      · by_cases h3 : p1 ≤ 31
        · rcases h with h | h | h | h
          · exact absurd h h0
          · exact absurd h h1
          · exact absurd h h2
          · exact absurd h3 h
        · exact br_f h0 (br_f h1 (br_f h2 (br_f h3 hp)))
theorem sy_bad0 {post : Int32 → Prop} {j kk : Nat} (hj : j < 4) (hkk : kk < 32) (hp : post 0) : wpY_bad post (nI j) (nI kk) :=
  br_f (nI_pos (by omega)) (br_f (nI_nlt (a := 3) (b := j) (by omega) (by omega)) (br_f (nI_pos (by omega)) (br_t (nI_le (b := 31) (by omega) (by decide)) hp)))
end
section
theorem sy_has {A : Nat → Nat → Int32} {there value rem num ans homes : Nat → Int32} (R : sm_R A there value rem num ans) {kk : Nat} (hkk : kk < 32) {post : Int32 → Prop} (hp : post (if A (kk % 8) (kk / 8) = 1 then 1 else 0)) : wpY_has post (there, value, rem, num, ans, homes) (nI kk) := by
  obtain ⟨r1, r2, r3⟩ := R.1 kk hkk
  refine br_f (nI_pos (by omega)) (br_f (nI_ge (b := 32) hkk (by decide)) ⟨vp_in_nI hkk (by decide), ?_⟩)
  rw [nI_clamp (by omega)]
  rw [r1] at hp
  rcases r2 with z | z
  · rw [z, if_neg (by decide)] at hp
    exact br_t z hp
  · rw [z, if_pos rfl] at hp
    exact br_f (by rw [z]; decide) hp
theorem sy_hasn {there value rem num ans homes : Nat → Int32} {p : Int32} {post : Int32 → Prop} (h : p < 0 ∨ 32 ≤ p) (hp : post 0) : wpY_has post (there, value, rem, num, ans, homes) p := by
  by_cases h0 : p < 0
  · exact br_t h0 hp
  · rcases h with h | h
    · exact absurd h h0
    · exact br_f h0 (br_t h hp)
theorem sy_get {A : Nat → Nat → Int32} {there value rem num ans homes : Nat → Int32} (R : sm_R A there value rem num ans) {kk : Nat} (hkk : kk < 32) {post : Int32 → Prop} (hp : post (A (kk % 8) (4 + kk / 8))) : wpY_get post (there, value, rem, num, ans, homes) (nI kk) := by
  obtain ⟨r1, r2, r3⟩ := R.1 kk hkk
  unfold wpY_get
  refine sy_has R hkk ?_
  rw [nI_clamp (by omega), r1]
  rw [r3] at hp
  rcases r2 with z | z
  · rw [if_pos z] at hp
    rw [z, if_neg (by decide)]
    exact br_t rfl hp
  · rw [if_neg (by rw [z]; decide)] at hp
    rw [z, if_pos rfl]
    exact br_f (by decide) ⟨vp_in_nI hkk (by decide), hp⟩
theorem sy_getn {there value rem num ans homes : Nat → Int32} {p : Int32} {post : Int32 → Prop} (h : p < 0 ∨ 32 ≤ p) (hp : post 0) : wpY_get post (there, value, rem, num, ans, homes) p := by
  unfold wpY_get
  exact sy_hasn h (br_t rfl hp)
theorem sm_at {kk j : Nat} (hkk : kk < 32) : 4 * (nI kk &&& 7) + nI j = nI (4 * (kk % 8) + j) := by
  rw [sm_k7 hkk, ← nI_add, ← pk_mul]
  rfl
theorem sy_fresh {A : Nat → Nat → Int32} {there value rem num ans homes : Nat → Int32} (R : sm_R A there value rem num ans) {kk j : Nat} (hkk : kk < 32) (hj : j < 4) (p : Int32) {post : Int32 → Prop} (h0 : A (kk % 8) (8 + j) = 1 → p ≤ A (kk % 8) (12 + j) → post 0) (h1 : (A (kk % 8) (8 + j) = 1 → ¬ p ≤ A (kk % 8) (12 + j)) → post 1) : wpY_fresh post (there, value, rem, num, ans, homes) (nI j) p (nI kk) := by
  obtain ⟨r1, r2, r3, r4⟩ := R.2 (kk % 8) j (by omega) hj
  have hi : vp_in (nI (4 * (kk % 8) + j)) 32 := vp_in_nI (by omega) (by decide)
  refine nm_r (sm_at hkk) ⟨hi, ?_⟩
  rw [nI_clamp (by omega)]
  rw [r1, r3] at h0 h1
  rcases r2 with z | z
  · exact br_t z (h1 (fun q => absurd (z.symm.trans q) (by decide)))
  · refine br_f (by rw [z]; decide) ⟨hi, ?_⟩
    by_cases y : p ≤ num (4 * (kk % 8) + j)
    · exact br_t y (h0 z y)
    · exact br_f y (h1 (fun _ => y))
theorem sy_again {A : Nat → Nat → Int32} {there value rem num ans homes : Nat → Int32} (R : sm_R A there value rem num ans) {kk j : Nat} (hkk : kk < 32) (hj : j < 4) (p : Int32) {post : Int32 → Prop} (h0 : A (kk % 8) (12 + j) = p → post (A (kk % 8) (16 + j))) (h1 : ¬ A (kk % 8) (12 + j) = p → post (-1)) : wpY_again post (there, value, rem, num, ans, homes) (nI j) p (nI kk) := by
  obtain ⟨r1, r2, r3, r4⟩ := R.2 (kk % 8) j (by omega) hj
  have hi : vp_in (nI (4 * (kk % 8) + j)) 32 := vp_in_nI (by omega) (by decide)
  refine nm_r (sm_at hkk) ⟨hi, ?_⟩
  rw [nI_clamp (by omega)]
  rw [r3] at h0 h1
  rw [r4] at h0
  exact br_c (fun z => ⟨hi, h0 z⟩) h1
theorem sy_done {there value rem num ans homes : Nat → Int32} {kk j : Nat} (hkk : kk < 32) (hj : j < 4) (p x : Int32) {post : Int32 → SY → Prop} (hp : post x (there, value, upd rem (4 * (kk % 8) + j) 1, upd num (4 * (kk % 8) + j) p, upd ans (4 * (kk % 8) + j) x, homes)) : wpY_done post (there, value, rem, num, ans, homes) (nI j) p (nI kk) x := by
  have hi : vp_in (nI (4 * (kk % 8) + j)) 32 := vp_in_nI (by omega) (by decide)
  have hb : vp_nar .boolean 1 = 1 := rfl
  refine nm_r (sm_at hkk) ?_
  rw [nI_clamp (by omega), hb]
  exact ⟨hi, nm_e ⟨hi, nm_e ⟨hi, nm_e hp⟩⟩⟩
theorem sy_pre {A : Nat → Nat → Int32} {there value rem num ans homes : Nat → Int32} (R : sm_R A there value rem num ans) {kk j : Nat} (hkk : kk < 32) (hj : j < 4) (p2 : Int32) {post : Int32 → SY → Prop} {Q : Prop}
    (h1 : A (kk % 8) (8 + j) = 1 → A (kk % 8) (12 + j) = p2 → post (A (kk % 8) (16 + j)) (there, value, rem, num, ans, homes))
    (h2 : A (kk % 8) (8 + j) = 1 → ¬ A (kk % 8) (12 + j) = p2 → ¬ A (kk % 8) (12 + j) ≤ p2 → post (-1) (there, value, rem, num, ans, homes))
    (h3 : (A (kk % 8) (8 + j) = 1 → ¬ A (kk % 8) (12 + j) = p2 ∧ A (kk % 8) (12 + j) ≤ p2) → Q) :
    wpY_fresh (fun r => ((r = 0 → wpY_again (fun r2 => post r2 (there, value, rem, num, ans, homes)) (there, value, rem, num, ans, homes) (nI j) p2 (nI kk)) ∧ (¬ r = 0 → Q))) (there, value, rem, num, ans, homes) (nI j) p2 (nI kk) := by
  refine sy_fresh R hkk hj p2 (fun z1 z2 => br_t rfl (sy_again R hkk hj p2 (fun z3 => h1 z1 z3) (fun z3 => h2 z1 z3 (fun z4 => z3 (Int32.le_antisymm z4 z2))))) (fun z => br_f (by decide) (h3 (fun z1 => ⟨fun z2 => z z1 ?_, ?_⟩)))
  · rw [z2]; exact Int32.le_refl _
  · exact Int32.le_of_lt (Int32.not_le.mp (z z1))
theorem sy_put {A : Nat → Nat → Int32} {there value rem num ans homes : Nat → Int32} (R : sm_R A there value rem num ans) {kk j : Nat} (hkk : kk < 32) (hj : j < 4) (p2 p4 : Int32) {post : Int32 → SY → Prop}
    (h1 : A (kk % 8) (8 + j) = 1 → A (kk % 8) (12 + j) = p2 → post (A (kk % 8) (16 + j)) (there, value, rem, num, ans, homes))
    (h2 : A (kk % 8) (8 + j) = 1 → ¬ A (kk % 8) (12 + j) = p2 → ¬ A (kk % 8) (12 + j) ≤ p2 → post (-1) (there, value, rem, num, ans, homes))
    (h3 : (A (kk % 8) (8 + j) = 1 → ¬ A (kk % 8) (12 + j) = p2 ∧ A (kk % 8) (12 + j) ≤ p2) → ∀ there' value' rem' num' ans', sm_R (sm_B A kk j 0 p2 p4) there' value' rem' num' ans' → post (sm_an 0 p4 (A (kk % 8) (4 + kk / 8))) (there', value', rem', num', ans', homes)) : wpY_put post (there, value, rem, num, ans, homes) (nI j) p2 (nI kk) p4 := by
  have hi : vp_in (nI kk) 32 := vp_in_nI (by omega) (by decide)
  have hb : vp_nar .boolean 1 = 1 := rfl
  unfold wpY_put
  refine sy_bad0 hj hkk (br_t rfl ?_)
  rw [nI_clamp (by omega), hb]
  refine sy_pre R hkk hj p2 h1 h2 (fun hc => ?_)
  refine sy_get R hkk ⟨hi, nm_e ⟨hi, nm_e (sy_done hkk hj _ _ ?_)⟩⟩
  refine h3 hc _ _ _ _ _ (sm_RB R hkk hj 0 p2 p4 (upd there kk 1) (upd value kk p4) ?_ (fun y hy => pk_un hy) ?_ (fun y hy => pk_un hy))
  · exact pk_us
  · rw [pk_us, pk_us]; rfl
theorem sy_addTo {A : Nat → Nat → Int32} {there value rem num ans homes : Nat → Int32} (R : sm_R A there value rem num ans) {kk j : Nat} (hkk : kk < 32) (hj : j < 4) (p2 p4 : Int32) {post : Int32 → SY → Prop}
    (h1 : A (kk % 8) (8 + j) = 1 → A (kk % 8) (12 + j) = p2 → post (A (kk % 8) (16 + j)) (there, value, rem, num, ans, homes))
    (h2 : A (kk % 8) (8 + j) = 1 → ¬ A (kk % 8) (12 + j) = p2 → ¬ A (kk % 8) (12 + j) ≤ p2 → post (-1) (there, value, rem, num, ans, homes))
    (h3 : (A (kk % 8) (8 + j) = 1 → ¬ A (kk % 8) (12 + j) = p2 ∧ A (kk % 8) (12 + j) ≤ p2) → ∀ there' value' rem' num' ans', sm_R (sm_B A kk j 1 p2 p4) there' value' rem' num' ans' → post (sm_an 1 p4 (A (kk % 8) (4 + kk / 8))) (there', value', rem', num', ans', homes)) : wpY_addTo post (there, value, rem, num, ans, homes) (nI j) p2 (nI kk) p4 := by
  have hi : vp_in (nI kk) 32 := vp_in_nI (by omega) (by decide)
  have hb : vp_nar .boolean 1 = 1 := rfl
  unfold wpY_addTo
  refine sy_bad0 hj hkk (br_t rfl ?_)
  rw [nI_clamp (by omega), hb]
  refine sy_pre R hkk hj p2 h1 h2 (fun hc => ?_)
  refine sy_get R hkk (nm_e ⟨hi, nm_e ⟨hi, nm_e (sy_done hkk hj _ _ ?_)⟩⟩)
  refine h3 hc _ _ _ _ _ (sm_RB R hkk hj 1 p2 p4 (upd there kk 1) (upd value kk (A (kk % 8) (4 + kk / 8) + p4)) ?_ (fun y hy => pk_un hy) ?_ (fun y hy => pk_un hy))
  · exact pk_us
  · rw [pk_us, pk_us]; rfl
theorem sy_remove {A : Nat → Nat → Int32} {there value rem num ans homes : Nat → Int32} (R : sm_R A there value rem num ans) {kk j : Nat} (hkk : kk < 32) (hj : j < 4) (p2 : Int32) {post : Int32 → SY → Prop}
    (h1 : A (kk % 8) (8 + j) = 1 → A (kk % 8) (12 + j) = p2 → post (A (kk % 8) (16 + j)) (there, value, rem, num, ans, homes))
    (h2 : A (kk % 8) (8 + j) = 1 → ¬ A (kk % 8) (12 + j) = p2 → ¬ A (kk % 8) (12 + j) ≤ p2 → post (-1) (there, value, rem, num, ans, homes))
    (h3 : (A (kk % 8) (8 + j) = 1 → ¬ A (kk % 8) (12 + j) = p2 ∧ A (kk % 8) (12 + j) ≤ p2) → ∀ there' value' rem' num' ans', sm_R (sm_B A kk j 2 p2 0) there' value' rem' num' ans' → post (sm_an 2 0 (A (kk % 8) (4 + kk / 8))) (there', value', rem', num', ans', homes)) : wpY_remove post (there, value, rem, num, ans, homes) (nI j) p2 (nI kk) := by
  have hi : vp_in (nI kk) 32 := vp_in_nI (by omega) (by decide)
  have hb : vp_nar .boolean 0 = 0 := rfl
  unfold wpY_remove
  refine sy_bad0 hj hkk (br_t rfl ?_)
  rw [nI_clamp (by omega), hb]
  refine sy_pre R hkk hj p2 h1 h2 (fun hc => ?_)
  refine sy_get R hkk ⟨hi, nm_e (sy_done hkk hj _ _ ?_)⟩
  refine h3 hc _ _ _ _ _ (sm_RB R hkk hj 2 p2 0 (upd there kk 0) value ?_ (fun y hy => pk_un hy) ?_ (fun y hy => rfl))
  · exact pk_us
  · rw [pk_us]; rfl
def sm_ct (there : Nat → Int32) (c : Nat) : Nat → Int32
  | 0 => 0
  | n + 1 => sm_ct there c n + (if n % 8 = c then there n else 0)
theorem sm_ct8 (there : Nat → Int32) {c : Nat} (hc : c < 8) (q : Nat) : ∀ r, r ≤ 8 → sm_ct there c (8 * q + r) = sm_ct there c (8 * q) + if c < r then there (8 * q + c) else 0 := by
  intro r
  induction r with
  | zero => intro _; rw [if_neg (by omega), Int32.add_zero]; rfl
  | succ r ih =>
    intro hr
    show sm_ct there c (8 * q + r) + (if (8 * q + r) % 8 = c then there (8 * q + r) else 0) = _
    rw [ih (by omega)]
    by_cases e : r = c
    · subst e
      rw [if_neg (by omega), if_pos (by omega), if_pos (by omega), Int32.add_zero]
    · rw [if_neg (c := (8 * q + r) % 8 = c) (by omega), Int32.add_zero]
      by_cases z : c < r
      · rw [if_pos z, if_pos (by omega)]
      · rw [if_neg z, if_neg (by omega)]
theorem sm_ctA {A : Nat → Nat → Int32} {there value rem num ans : Nat → Int32} (R : sm_R A there value rem num ans) {c : Nat} (hc : c < 8) : sm_ct there c 32 = A c 0 + A c 1 + A c 2 + A c 3 := by
  have a : ∀ s, s < 4 → there (8 * s + c) = A c s := by
    intro s hs
    have q := (R.1 (8 * s + c) (by omega)).1
    rw [show (8 * s + c) % 8 = c by omega, show (8 * s + c) / 8 = s by omega] at q
    exact q.symm
  have s0 := sm_ct8 there hc 0 8 (by omega)
  have s1 := sm_ct8 there hc 1 8 (by omega)
  have s2 := sm_ct8 there hc 2 8 (by omega)
  have s3 := sm_ct8 there hc 3 8 (by omega)
  rw [if_pos hc, a _ (by omega)] at s0 s1 s2 s3
  have z : sm_ct there c (8 * 0) = 0 := rfl
  rw [z, Int32.zero_add] at s0
  have e0 : 8 * 0 + 8 = 8 * 1 := by omega
  have e1 : 8 * 1 + 8 = 8 * 2 := by omega
  have e2 : 8 * 2 + 8 = 8 * 3 := by omega
  rw [e0] at s0
  rw [e1, s0] at s1
  rw [e2, s1] at s2
  rw [s2] at s3
  exact s3
theorem sy_size {A : Nat → Nat → Int32} {there value rem num ans homes : Nat → Int32} (R : sm_R A there value rem num ans) {c : Nat} (hc : c < 8) {p : Int32} (ep : p &&& 7 = nI c) {post : Int32 → Prop} (hp : post (A c 0 + A c 1 + A c 2 + A c 3)) : wpY_size post (there, value, rem, num, ans, homes) p := by
  rw [← sm_ctA R hc] at hp
  have key : ∀ d j : Nat, j + d = 32 → wY_size_4 post p there value rem num ans homes (d + 1) (sm_ct there c j) (nI j) := by
    intro d
    induction d with
    | zero =>
      intro j hj
      have ej : j = 32 := by omega
      subst ej
      exact br_t (nI_le (a := 32) (b := 32) (by omega) (by omega)) hp
    | succ d ih =>
      intro j hj
      have ih' := ih (j + 1) (by omega)
      have es : sm_ct there c (j + 1) = sm_ct there c j + (if j % 8 = c then there j else 0) := rfl
      rw [es] at ih'
      have hi : vp_in (nI j) 32 := vp_in_nI (by omega) (by decide)
      refine br_f (nI_ge (b := 32) (by omega) (by decide)) ⟨hi, ?_⟩
      rw [nI_clamp (by omega), sm_k7 (by omega), ep]
      rcases (R.1 j (by omega)).2.1 with z | z
      · rw [z, ite_self, Int32.add_zero] at ih'
        exact br_t z (nm_r (nI_1 j) ih')
      · refine br_f (by rw [z]; decide) ?_
        rw [z] at ih'
        refine pk_eq (j % 8) c (fun e => ?_) (fun e => ?_)
        · rw [if_pos e] at ih'
          exact nm_e (nm_r (nI_1 j) ih')
        · rw [if_neg e, Int32.add_zero] at ih'
          exact nm_r (nI_1 j) ih'
  exact ⟨33, key 32 0 (by omega)⟩
theorem sm_last {A : Nat → Nat → Int32} {m w hm ho cp : Nat → Int32} (I : sm_I A m w hm ho cp) {there value rem num ans homes : Nat → Int32} (R : sm_R A there value rem num ans) (p : Int32) : ∀ n, n ≤ 32 → ∃ r : Int32, (∀ post : Int32 → Prop, post r → wX_lastFrom_3 post p m w hm ho cp (n + 1) (nI n + (-1))) ∧ (∀ post : Int32 → Prop, post r → wY_lastFrom_3 post p there value rem num ans homes (n + 1) (nI n + (-1))) := by
  intro n
  induction n with
  | zero => intro _; exact ⟨-1, fun _ hp => br_t (by decide) hp, fun _ hp => br_t (by decide) hp⟩
  | succ n ih =>
    intro hn
    obtain ⟨r, hX, hY⟩ := ih (by omega)
    obtain ⟨r1, r2, r3⟩ := R.1 n (by omega)
    have hi : vp_in (nI n) 32 := vp_in_nI (by omega) (by decide)
    have h0 : ¬ nI n < 0 := nI_pos (by omega)
    rw [pk_m1]
    rcases r2 with z | z
    · refine ⟨r, fun post hp => br_f h0 (sx_has I (by omega) ?_), fun post hp => br_f h0 ⟨hi, ?_⟩⟩
      · rw [r1, z, if_neg (by decide)]
        exact br_t rfl (nm_e (hX post hp))
      · rw [nI_clamp (by omega)]
        exact br_t z (nm_e (hY post hp))
    · have zn : ¬ there n = 0 := by rw [z]; decide
      rw [if_neg zn] at r3
      by_cases y : value n < p
      · refine ⟨r, fun post hp => br_f h0 (sx_has I (by omega) ?_), fun post hp => br_f h0 ⟨hi, ?_⟩⟩
        · rw [r1, z, if_pos rfl]
          refine br_f (by decide) (sx_get I (by omega) ?_)
          rw [r3]
          exact br_t y (nm_e (hX post hp))
        · rw [nI_clamp (by omega)]
          exact br_f zn ⟨hi, br_t y (nm_e (hY post hp))⟩
      · refine ⟨nI n, fun post hp => br_f h0 (sx_has I (by omega) ?_), fun post hp => br_f h0 ⟨hi, ?_⟩⟩
        · rw [r1, z, if_pos rfl]
          refine br_f (by decide) (sx_get I (by omega) ?_)
          rw [r3]
          exact br_f y hp
        · rw [nI_clamp (by omega)]
          exact br_f zn ⟨hi, br_f y hp⟩
theorem sy_init {post : SY → Prop} (hp : post (fun _ => 0, fun _ => 0, fun _ => 0, fun _ => 0, fun _ => 0, sm_h0 8)) : wpY_init post := by
  have key : ∀ d j : Nat, j + d = 8 → wY_init_54 post (d + 1) (nI j) (fun _ => 0) (fun _ => 0) (fun _ => 0) (fun _ => 0) (fun _ => 0) (sm_h0 j) := by
    intro d
    induction d with
    | zero =>
      intro j hj
      have ej : j = 8 := by omega
      subst ej
      exact br_t (nI_le (a := 8) (b := 8) (by omega) (by omega)) hp
    | succ d ih =>
      intro j hj
      have hi : vp_in (nI j) 8 := vp_in_nI (by omega) (by decide)
      have e3 : nI j &&& 3 = nI (j % 4) := pk_andN (by omega) 2 (by decide)
      refine br_f (nI_ge (b := 8) (by omega) (by decide)) ?_
      rw [nI_clamp (by omega), e3]
      exact ⟨hi, nm_r (sm_h0s j) (nm_r (nI_1 j) (ih (j + 1) (by omega)))⟩
  have q := key 8 0 rfl
  rw [sm_h00] at q
  exact ⟨9, q⟩
end
section
theorem sm_c4 {x : Int32} (h : nI 4 ≤ x) : 4 ≤ x ∧ 3 < x := by
  have e4 : (nI 4).toInt = 4 := by decide
  have e3 : (3 : Int32).toInt = 3 := by decide
  refine ⟨h, ?_⟩
  rw [Int32.le_iff_toInt_le, e4] at h
  rw [Int32.lt_iff_toInt_lt, e3]
  omega
theorem sm_c32 {x : Int32} (h : nI 32 ≤ x) : 32 ≤ x ∧ ¬ x < 32 ∧ ¬ x ≤ 31 := by
  have e32 : (nI 32).toInt = 32 := by decide
  have f32 : (32 : Int32).toInt = 32 := by decide
  have e31 : (31 : Int32).toInt = 31 := by decide
  refine ⟨h, ?_, ?_⟩
  · rw [Int32.le_iff_toInt_le, e32] at h
    rw [Int32.lt_iff_toInt_lt, f32]
    omega
  · rw [Int32.le_iff_toInt_le, e32] at h
    rw [Int32.le_iff_toInt_le, e31]
    omega
theorem sm_key (k : Int32) : ((k < 0 ∨ ¬ k < 32) ∧ (k < 0 ∨ ¬ k ≤ 31) ∧ (k < 0 ∨ 32 ≤ k)) ∨ ∃ kk, kk < 32 ∧ k = nI kk := by
  rcases pk_ix k (n := 32) (by decide) with h | h | h
  · exact Or.inl ⟨Or.inl h, Or.inl h, Or.inl h⟩
  · exact Or.inl ⟨Or.inr (sm_c32 h).2.1, Or.inr (sm_c32 h).2.2, Or.inr (sm_c32 h).1⟩
  · exact Or.inr h
theorem sm_cases (c k : Int32) : ((c < 0 ∨ 4 ≤ c ∨ k < 0 ∨ ¬ k < 32) ∧ (c < 0 ∨ 3 < c ∨ k < 0 ∨ ¬ k ≤ 31)) ∨ ∃ j kk, j < 4 ∧ kk < 32 ∧ c = nI j ∧ k = nI kk := by
  rcases pk_ix c (n := 4) (by decide) with h | h | ⟨j, hj, h⟩
  · exact Or.inl ⟨Or.inl h, Or.inl h⟩
  · exact Or.inl ⟨Or.inr (Or.inl (sm_c4 h).1), Or.inr (Or.inl (sm_c4 h).2)⟩
  · rcases sm_key k with h2 | ⟨kk, hkk, h2⟩
    · exact Or.inl ⟨Or.inr (Or.inr h2.1), Or.inr (Or.inr h2.2.1)⟩
    · exact Or.inr ⟨j, kk, hj, hkk, h, h2⟩
theorem sy_putn {v : SY} {p0 p1 p2 p3 : Int32} (h : p0 < 0 ∨ 3 < p0 ∨ p2 < 0 ∨ ¬ p2 ≤ 31) {post : Int32 → SY → Prop} (hp : post (-2) v) : wpY_put post v p0 p1 p2 p3 := by
  obtain ⟨a, b, c, d, e, f⟩ := v
  unfold wpY_put
  exact sy_bad1 h (br_f (by decide) hp)
theorem sy_addTon {v : SY} {p0 p1 p2 p3 : Int32} (h : p0 < 0 ∨ 3 < p0 ∨ p2 < 0 ∨ ¬ p2 ≤ 31) {post : Int32 → SY → Prop} (hp : post (-2) v) : wpY_addTo post v p0 p1 p2 p3 := by
  obtain ⟨a, b, c, d, e, f⟩ := v
  unfold wpY_addTo
  exact sy_bad1 h (br_f (by decide) hp)
theorem sy_removen {v : SY} {p0 p1 p2 : Int32} (h : p0 < 0 ∨ 3 < p0 ∨ p2 < 0 ∨ ¬ p2 ≤ 31) {post : Int32 → SY → Prop} (hp : post (-2) v) : wpY_remove post v p0 p1 p2 := by
  obtain ⟨a, b, c, d, e, f⟩ := v
  unfold wpY_remove
  exact sy_bad1 h (br_f (by decide) hp)
end
section
def i_Rel (k : Nat) (u : SX) (v : SY) : Prop := ∃ (A : Nat → Nat → Int32) (m w hm ho cp there value rem num ans : Nat → Int32), u = (m, w, hm, ho, cp) ∧ v = (there, value, rem, num, ans, hm) ∧ sm_I A m w hm ho cp ∧ sm_R A there value rem num ans
theorem i_up {k : Nat} {u : SX} {v : SY} (h : i_Rel k u v) : i_Rel (k + 5) u v := h
theorem sm_rel {k : Nat} {A : Nat → Nat → Int32} {m w hm ho cp there value rem num ans : Nat → Int32} (I : sm_I A m w hm ho cp) (R : sm_R A there value rem num ans) : i_Rel k (m, w, hm, ho, cp) (there, value, rem, num, ans, hm) :=
  ⟨A, m, w, hm, ho, cp, there, value, rem, num, ans, rfl, rfl, I, R⟩
theorem i_vc0 : wpX_init (fun u => wpY_init (fun v => i_Rel 0 u v)) :=
  sx_init (sy_init (sm_rel sm_I0 sm_R0))
theorem i_vc_put {k : Nat} {u : SX} {v : SY} (I : i_Rel k u v) (hk : k + 5 ≤ 2560) (v1 : Int32) (v2 : Int32) (v3 : Int32) (v4 : Int32) : wpX_put (fun r u' => wpY_put (fun r' v' => r' = r ∧ i_Rel (k + 5) u' v') v v1 v2 v3 v4) u v1 v2 v3 v4 := by
  obtain ⟨A, m, w, hm, ho, cp, there, value, rem, num, ans, rfl, rfl, I, R⟩ := I
  unfold wpX_put
  rcases sm_cases v1 v3 with ⟨b1, b2⟩ | ⟨j, kk, hj, hkk, rfl, rfl⟩
  · exact sx_bad b1 (sy_putn b2 ⟨rfl, sm_rel I R⟩)
  · refine sx_req I hkk hj 0 v2 v4 (fun z1 z2 => ?_) (fun z1 z2 z3 => ?_) (fun hc m' w' I' => ?_)
    · exact sy_put R hkk hj v2 v4 (fun _ _ => ⟨rfl, sm_rel I R⟩) (fun _ n _ => absurd z2 n) (fun n => absurd z2 (n z1).1)
    · exact sy_put R hkk hj v2 v4 (fun _ n => absurd n z2) (fun _ _ _ => ⟨rfl, sm_rel I R⟩) (fun n => absurd (n z1).2 z3)
    · exact sy_put R hkk hj v2 v4 (fun n1 n2 => absurd n2 (hc n1).1) (fun n1 _ n3 => absurd (hc n1).2 n3) (fun _ _ _ _ _ _ R' => ⟨rfl, sm_rel I' R'⟩)
theorem i_vc_addTo {k : Nat} {u : SX} {v : SY} (I : i_Rel k u v) (hk : k + 5 ≤ 2560) (v1 : Int32) (v2 : Int32) (v3 : Int32) (v4 : Int32) : wpX_addTo (fun r u' => wpY_addTo (fun r' v' => r' = r ∧ i_Rel (k + 5) u' v') v v1 v2 v3 v4) u v1 v2 v3 v4 := by
  obtain ⟨A, m, w, hm, ho, cp, there, value, rem, num, ans, rfl, rfl, I, R⟩ := I
  unfold wpX_addTo
  rcases sm_cases v1 v3 with ⟨b1, b2⟩ | ⟨j, kk, hj, hkk, rfl, rfl⟩
  · exact sx_bad b1 (sy_addTon b2 ⟨rfl, sm_rel I R⟩)
  · refine sx_req I hkk hj 1 v2 v4 (fun z1 z2 => ?_) (fun z1 z2 z3 => ?_) (fun hc m' w' I' => ?_)
    · exact sy_addTo R hkk hj v2 v4 (fun _ _ => ⟨rfl, sm_rel I R⟩) (fun _ n _ => absurd z2 n) (fun n => absurd z2 (n z1).1)
    · exact sy_addTo R hkk hj v2 v4 (fun _ n => absurd n z2) (fun _ _ _ => ⟨rfl, sm_rel I R⟩) (fun n => absurd (n z1).2 z3)
    · exact sy_addTo R hkk hj v2 v4 (fun n1 n2 => absurd n2 (hc n1).1) (fun n1 _ n3 => absurd (hc n1).2 n3) (fun _ _ _ _ _ _ R' => ⟨rfl, sm_rel I' R'⟩)
theorem i_vc_remove {k : Nat} {u : SX} {v : SY} (I : i_Rel k u v) (hk : k + 5 ≤ 2560) (v1 : Int32) (v2 : Int32) (v3 : Int32) : wpX_remove (fun r u' => wpY_remove (fun r' v' => r' = r ∧ i_Rel (k + 5) u' v') v v1 v2 v3) u v1 v2 v3 := by
  obtain ⟨A, m, w, hm, ho, cp, there, value, rem, num, ans, rfl, rfl, I, R⟩ := I
  unfold wpX_remove
  rcases sm_cases v1 v3 with ⟨b1, b2⟩ | ⟨j, kk, hj, hkk, rfl, rfl⟩
  · exact sx_bad b1 (sy_removen b2 ⟨rfl, sm_rel I R⟩)
  · refine sx_req I hkk hj 2 v2 0 (fun z1 z2 => ?_) (fun z1 z2 z3 => ?_) (fun hc m' w' I' => ?_)
    · exact sy_remove R hkk hj v2 (fun _ _ => ⟨rfl, sm_rel I R⟩) (fun _ n _ => absurd z2 n) (fun n => absurd z2 (n z1).1)
    · exact sy_remove R hkk hj v2 (fun _ n => absurd n z2) (fun _ _ _ => ⟨rfl, sm_rel I R⟩) (fun n => absurd (n z1).2 z3)
    · exact sy_remove R hkk hj v2 (fun n1 n2 => absurd n2 (hc n1).1) (fun n1 _ n3 => absurd (hc n1).2 n3) (fun _ _ _ _ _ _ R' => ⟨rfl, sm_rel I' R'⟩)
theorem i_vc_get {k : Nat} {u : SX} {v : SY} (I : i_Rel k u v) (hk : k + 5 ≤ 2560) (v1 : Int32) : wpX_get (fun r => wpY_get (fun r' => r' = r ∧ i_Rel (k + 5) u v) v v1) u v1 := by
  obtain ⟨A, m, w, hm, ho, cp, there, value, rem, num, ans, rfl, rfl, I, R⟩ := I
  rcases sm_key v1 with ⟨b1, b2, b3⟩ | ⟨kk, hkk, rfl⟩
  · exact sx_getn b1 (sy_getn b3 ⟨rfl, sm_rel I R⟩)
  · exact sx_get I hkk (sy_get R hkk ⟨rfl, sm_rel I R⟩)
theorem i_vc_has {k : Nat} {u : SX} {v : SY} (I : i_Rel k u v) (hk : k + 5 ≤ 2560) (v1 : Int32) : wpX_has (fun r => wpY_has (fun r' => r' = r ∧ i_Rel (k + 5) u v) v v1) u v1 := by
  obtain ⟨A, m, w, hm, ho, cp, there, value, rem, num, ans, rfl, rfl, I, R⟩ := I
  rcases sm_key v1 with ⟨b1, b2, b3⟩ | ⟨kk, hkk, rfl⟩
  · exact sx_hasn b1 (sy_hasn b3 ⟨rfl, sm_rel I R⟩)
  · exact sx_has I hkk (sy_has R hkk ⟨rfl, sm_rel I R⟩)
theorem i_vc_size {k : Nat} {u : SX} {v : SY} (I : i_Rel k u v) (hk : k + 5 ≤ 2560) (v1 : Int32) : wpX_size (fun r => wpY_size (fun r' => r' = r ∧ i_Rel (k + 5) u v) v v1) u v1 := by
  obtain ⟨A, m, w, hm, ho, cp, there, value, rem, num, ans, rfl, rfl, I, R⟩ := I
  obtain ⟨c, hc, ec⟩ := pk_andE v1 (m := 7) 3 (by decide)
  exact sx_size I hc ec (sy_size R hc ec ⟨rfl, sm_rel I R⟩)
theorem i_vc_lastFrom {k : Nat} {u : SX} {v : SY} (I : i_Rel k u v) (hk : k + 5 ≤ 2560) (v1 : Int32) : wpX_lastFrom (fun r => wpY_lastFrom (fun r' => r' = r ∧ i_Rel (k + 5) u v) v v1) u v1 := by
  obtain ⟨A, m, w, hm, ho, cp, there, value, rem, num, ans, rfl, rfl, I, R⟩ := I
  obtain ⟨r, hX, hY⟩ := sm_last (homes := hm) I R v1 32 (by omega)
  have e : nI 32 + (-1) = 31 := by decide
  rw [e] at hX hY
  exact ⟨33, hX _ ⟨33, hY _ ⟨rfl, sm_rel I R⟩⟩⟩
theorem i_vc_assign {k : Nat} {u : SX} {v : SY} (I : i_Rel k u v) (hk : k + 5 ≤ 2560) (v1 : Int32) (v2 : Int32) : wpX_assign (fun r u' => wpY_assign (fun r' v' => r' = r ∧ i_Rel (k + 5) u' v') v v1 v2) u v1 v2 := by
  obtain ⟨A, m, w, hm, ho, cp, there, value, rem, num, ans, rfl, rfl, I, R⟩ := I
  obtain ⟨c, hc, ec⟩ := pk_andE v1 (m := 7) 3 (by decide)
  obtain ⟨g, hg, eg⟩ := pk_andE v2 (m := 3) 2 (by decide)
  refine sx_assign I hc hg ec eg (fun cp' I' => ?_)
  have hi : vp_in (nI c) 8 := vp_in_nI hc (by decide)
  unfold wpY_assign
  dsimp only
  rw [ec, eg, nI_clamp (Nat.lt_trans hc (by decide))]
  exact ⟨hi, nm_e ⟨hi, nm_e ⟨rfl, sm_rel I' R⟩⟩⟩
theorem i_vc_home {k : Nat} {u : SX} {v : SY} (I : i_Rel k u v) (hk : k + 5 ≤ 2560) (v1 : Int32) : wpX_home (fun r => wpY_home (fun r' => r' = r ∧ i_Rel (k + 5) u v) v v1) u v1 := by
  obtain ⟨A, m, w, hm, ho, cp, there, value, rem, num, ans, rfl, rfl, I, R⟩ := I
  have hi : vp_in (v1 &&& 7) 8 := pk_andIn v1 3 (by decide) (by decide)
  exact ⟨hi, hi, rfl, sm_rel I R⟩
theorem i_vc_work {k : Nat} {u : SX} {v : SY} (I : i_Rel k u v) (hk : k + 5 ≤ 2560) (v1 : Int32) : wpX_work (fun u' => wpY_work (fun v' => i_Rel (k + 5) u' v') v v1) u v1 := by
  obtain ⟨A, m, w, hm, ho, cp, there, value, rem, num, ans, rfl, rfl, I, R⟩ := I
  exact sx_work I v1 (fun _ _ _ _ I' => sm_rel (k := k + 5) I' R)
theorem i_vc_lose {k : Nat} {u : SX} {v : SY} (I : i_Rel k u v) (hk : k + 5 ≤ 2560) (v1 : Int32) : wpX_lose (fun u' => wpY_lose (fun v' => i_Rel (k + 5) u' v') v v1) u v1 := by
  obtain ⟨A, m, w, hm, ho, cp, there, value, rem, num, ans, rfl, rfl, I, R⟩ := I
  exact sx_lose I v1 (fun _ _ _ _ I' => sm_rel (k := k + 5) I' R)
end
