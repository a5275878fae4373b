section
theorem pk_us {f : Nat → Int32} {k : Nat} {x : Int32} : upd f k x k = x := if_pos rfl
theorem pk_un {f : Nat → Int32} {k j : Nat} {x : Int32} (h : j ≠ k) : upd f k x j = f j := if_neg h
theorem pk_m1 (n : Nat) : nI (n + 1) + (-1) = nI n := by
  rw [← nI_1, Int32.add_assoc, show (1 : Int32) + (-1) = 0 from rfl, Int32.add_zero]
theorem pk_mul (a b : Nat) : nI a * nI b = nI (a * b) := (Int32.ofNat_mul a b).symm
theorem pk_ix (x : Int32) {n : Nat} (hn : n < 2 ^ 31) : x < 0 ∨ nI n ≤ x ∨ ∃ j : Nat, j < n ∧ x = nI j := by
  by_cases h : x < 0
  · exact Or.inl h
  · obtain ⟨j, hj, rfl⟩ := nI_of h
    by_cases h2 : j < n
    · exact Or.inr (Or.inr ⟨j, h2, rfl⟩)
    · exact Or.inr (Or.inl (nI_le (by omega) hj))
theorem pk_le {x y : Int32} {A B : Prop} (a b : Nat) (f : a ≤ b → A) (g : b < a → B) (hx : x = nI a := by rfl) (hy : y = nI b := by rfl) (ha : a < 2 ^ 31 := by omega) (hb : b < 2 ^ 31 := by omega) : (x ≤ y → A) ∧ (¬ x ≤ y → B) := by
  subst hx hy
  rw [nI_leI ha hb]
  exact ⟨f, fun z => g (by omega)⟩
theorem pk_lt {x y : Int32} {A B : Prop} (a b : Nat) (f : a < b → A) (g : b ≤ a → B) (hx : x = nI a := by rfl) (hy : y = nI b := by rfl) (ha : a < 2 ^ 31 := by omega) (hb : b < 2 ^ 31 := by omega) : (x < y → A) ∧ (¬ x < y → B) := by
  subst hx hy
  rw [nI_ltI ha hb]
  exact ⟨f, fun z => g (by omega)⟩
theorem pk_eq {x y : Int32} {A B : Prop} (a b : Nat) (f : a = b → A) (g : a ≠ b → B) (hx : x = nI a := by rfl) (hy : y = nI b := by rfl) (ha : a < 2 ^ 31 := by omega) (hb : b < 2 ^ 31 := by omega) : (x = y → A) ∧ (¬ x = y → B) := by
  subst hx hy
  rw [nI_eq ha hb]
  exact ⟨f, g⟩
theorem pk_in {x : Int32} (n N : Nat) (h : n < N) (hx : x = nI n := by rfl) (hN : N < 2 ^ 31 := by omega) : vp_in x N := by
  subst hx
  exact vp_in_nI h hN
theorem pk_cl {x : Int32} (n : Nat) (hx : x = nI n := by rfl) (h : n < 2 ^ 31 := by omega) : x.toNatClampNeg = n := by
  subst hx
  exact nI_clamp h
theorem pk_tn {n : Nat} (h : n < 2 ^ 32) : (nI n).toBitVec.toNat = n := Nat.mod_eq_of_lt h
theorem pk_and (x : Int32) {m : Int32} (k : Nat) (hm : m.toBitVec.toNat = 2 ^ k - 1) : x &&& m = nI (x.toBitVec.toNat % 2 ^ k) := by
  apply Int32.toBitVec_inj.mp
  apply BitVec.eq_of_toNat_eq
  rw [Int32.toBitVec_and, BitVec.toNat_and, hm, Nat.and_two_pow_sub_one_eq_mod]
  show _ = (BitVec.ofNat 32 _).toNat
  rw [BitVec.toNat_ofNat]
  exact (Nat.mod_eq_of_lt (Nat.lt_of_le_of_lt (Nat.mod_le _ _) x.toBitVec.isLt)).symm
theorem pk_andN {n : Nat} (h : n < 2 ^ 32) {m : Int32} (k : Nat) (hm : m.toBitVec.toNat = 2 ^ k - 1) : nI n &&& m = nI (n % 2 ^ k) := by
  rw [pk_and _ k hm, pk_tn h]
theorem pk_andE (x : Int32) {m : Int32} (k : Nat) (hm : m.toBitVec.toNat = 2 ^ k - 1) : ∃ j : Nat, j < 2 ^ k ∧ x &&& m = nI j := ⟨_, Nat.mod_lt _ (Nat.two_pow_pos k), pk_and x k hm⟩
theorem pk_andIn (x : Int32) {m : Int32} (k : Nat) (hm : m.toBitVec.toNat = 2 ^ k - 1) (hk : k ≤ 30) : vp_in (x &&& m) (2 ^ k) := by
  obtain ⟨j, hj, e⟩ := pk_andE x k hm
  rw [e]
  exact vp_in_nI hj (Nat.lt_of_le_of_lt (Nat.pow_le_pow_right (by decide) hk) (by decide))
theorem pk_shr (a s : Int32) (k : Nat) (hs : (s.toBitVec.smod 32).toNat = k) : (a >>> s).toInt = a.toInt >>> k := by
  show (a.toBitVec.sshiftRight (s.toBitVec.smod 32).toNat).toInt = _
  rw [hs, BitVec.toInt_sshiftRight]
  rfl
theorem pk_shrN {n : Nat} (h : n < 2 ^ 31) (s : Int32) (k : Nat) (hs : (s.toBitVec.smod 32).toNat = k) : nI n >>> s = nI (n / 2 ^ k) := by
  apply Int32.toInt_inj.mp
  have h2 : n / 2 ^ k ≤ n := Nat.div_le_self _ _
  rw [pk_shr _ _ k hs, nI_toInt h, nI_toInt (by omega), Int.shiftRight_eq_div_pow]
  rfl
end
section
/-- one class: h its home, o its holder, k the cells that the home has of it; f its twenty cells -/
def sm_C (f : Nat → Int32) (m w : Nat → Int32) (c h o k : Nat) : Prop :=
  h < 4 ∧ o < 4 ∧ k ≤ 20 ∧ (h = o → k = 0) ∧ (∀ i, i < 20 → m (o * 160 + c * 20 + i) = f i) ∧ (∀ i, i < 20 → w (o * 160 + c * 20 + i) = f i) ∧ (∀ i, i < k → m (h * 160 + c * 20 + i) = f i)
/-- the component's state shows the table A: A c i is cell i of class c -/
def sm_I (A : Nat → Nat → Int32) (m w hm ho cp : Nat → Int32) : Prop :=
  ∀ c, c < 8 → ∃ h o k : Nat, hm c = nI h ∧ ho c = nI o ∧ cp c = nI k ∧ sm_C (A c) m w c h o k
def sm_up (A : Nat → Nat → Int32) (c i : Nat) (x : Int32) : Nat → Nat → Int32 := fun c' i' => if c' = c ∧ i' = i then x else A c' i'
theorem sm_ups {A : Nat → Nat → Int32} {c i : Nat} {x : Int32} : sm_up A c i x c i = x := if_pos ⟨rfl, rfl⟩
theorem sm_upn {A : Nat → Nat → Int32} {c i c' i' : Nat} {x : Int32} (h : ¬ (c' = c ∧ i' = i)) : sm_up A c i x c' i' = A c' i' := if_neg h
theorem sm_upc {A : Nat → Nat → Int32} {c i c' : Nat} {x : Int32} (h : ¬ c' = c) : sm_up A c i x c' = A c' := funext fun _ => if_neg fun z => h z.1
theorem sm_Cf {f m w m' w' : Nat → Int32} {c h o k : Nat} (C : sm_C f m w c h o k) (e1 : ∀ g i, i < 20 → m' (g * 160 + c * 20 + i) = m (g * 160 + c * 20 + i)) (e2 : ∀ g i, i < 20 → w' (g * 160 + c * 20 + i) = w (g * 160 + c * 20 + i)) : sm_C f m' w' c h o k := by
  obtain ⟨h4, o4, k20, hk, h1, h2, h3⟩ := C
  refine ⟨h4, o4, k20, hk, fun i hi => ?_, fun i hi => ?_, fun i hi => ?_⟩
  · rw [e1 o i hi, h1 i hi]
  · rw [e2 o i hi, h2 i hi]
  · rw [e1 h i (by omega), h3 i hi]
theorem sm_st {A : Nat → Nat → Int32} {m w hm ho cp : Nat → Int32} (I : sm_I A m w hm ho cp) {c i h o k : Nat} (hc : c < 8) (hi : i < 20) (eh : hm c = nI h) (eo : ho c = nI o) (ek : cp c = nI k) (C : sm_C (A c) m w c h o k) (x : Int32) (m' : Nat → Int32)
    (ha : m' (o * 160 + c * 20 + i) = x) (hb : i < k → m' (h * 160 + c * 20 + i) = x) (hn : ∀ y, y ≠ o * 160 + c * 20 + i → (i < k → y ≠ h * 160 + c * 20 + i) → m' y = m y) : sm_I (sm_up A c i x) m' (upd w (o * 160 + c * 20 + i) x) hm ho cp := by
  intro c' hc'
  by_cases e : c' = c
  · subst e
    refine ⟨h, o, k, eh, eo, ek, ?_⟩
    obtain ⟨h4, o4, k20, hk, h1, h2, h3⟩ := C
    refine ⟨h4, o4, k20, hk, fun i' hi' => ?_, fun i' hi' => ?_, fun i' hi' => ?_⟩
    · by_cases e : i' = i
      · subst e
        rw [ha, sm_ups]
      · rw [sm_upn (by omega), hn _ (by omega) (fun z => ?_), h1 i' hi']
        omega
    · by_cases e : i' = i
      · subst e
        rw [pk_us, sm_ups]
      · rw [sm_upn (by omega), pk_un (by omega), h2 i' hi']
    · by_cases e : i' = i
      · subst e
        rw [hb hi', sm_ups]
      · rw [sm_upn (by omega), hn _ ?_ (fun z => ?_), h3 i' hi']
        · intro z
          have : ¬ h = o := fun z2 => by have := hk z2; omega
          omega
        · omega
  · obtain ⟨h', o', k', eh', eo', ek', C'⟩ := I c' hc'
    refine ⟨h', o', k', eh', eo', ek', ?_⟩
    rw [sm_upc e]
    refine sm_Cf C' (fun g i' hi' => ?_) (fun g i' hi' => ?_)
    · exact hn _ (by omega) (fun _ => by omega)
    · exact pk_un (by omega)
theorem sx_first {post : Int32 → Prop} {g c : Nat} (hp : post (nI (g * 160 + c * 20))) : wpX_firstCell post (nI g) (nI c) := by
  have e : nI g * 160 + nI c * 20 = nI (g * 160 + c * 20) := by
    rw [← nI_add, ← pk_mul, ← pk_mul]
    rfl
  unfold wpX_firstCell
  rw [e]
  exact hp
theorem sx_load {A : Nat → Nat → Int32} {m w hm ho cp : Nat → Int32} (I : sm_I A m w hm ho cp) {c i : Nat} (hc : c < 8) (hi : i < 20) {post : Int32 → Prop} (hp : post (A c i)) : wpX_load post (m, w, hm, ho, cp) (nI c) (nI i) := by
  obtain ⟨h, o, k, eh, eo, ek, h4, o4, k20, hk, h1, h2, h3⟩ := I c hc
  refine ⟨vp_in_nI hc (by decide), ?_⟩
  rw [nI_clamp (by omega), eo]
  refine sx_first ?_
  rw [nI_add]
  refine ⟨vp_in_nI (by omega) (by decide), ?_⟩
  rw [nI_clamp (by omega), h1 i hi]
  exact hp
theorem sx_store {A : Nat → Nat → Int32} {m w hm ho cp : Nat → Int32} (I : sm_I A m w hm ho cp) {c i : Nat} (hc : c < 8) (hi : i < 20) (x : Int32) {post : SX → Prop} (hp : ∀ m' w', sm_I (sm_up A c i x) m' w' hm ho cp → post (m', w', hm, ho, cp)) : wpX_store post (m, w, hm, ho, cp) (nI c) (nI i) x := by
  obtain ⟨h, o, k, eh, eo, ek, C⟩ := I c hc
  have C' := C
  obtain ⟨h4, o4, k20, hk, h1, h2, h3⟩ := C'
  refine ⟨vp_in_nI hc (by decide), ?_⟩
  rw [nI_clamp (n := c) (by omega), eo, ek, eh]
  refine sx_first ?_
  refine nm_r (nI_add _ _) ?_
  rw [nI_clamp (n := o * 160 + c * 20 + i) (by omega)]
  refine ⟨vp_in_nI (by omega) (by decide), nm_e ?_⟩
  refine ⟨vp_in_nI (by omega) (by decide), nm_e ?_⟩
  refine ⟨vp_in_nI hc (by decide), ?_⟩
  refine pk_le k i (fun hki => hp _ _ ?_) (fun hik => ⟨vp_in_nI hc (by decide), sx_first (nm_r (nI_add _ _) ⟨vp_in_nI (by omega) (by decide), nm_e (hp _ _ ?_)⟩)⟩)
  · exact sm_st I hc hi eh eo ek C x _ pk_us (fun z => by omega) (fun y hy _ => pk_un hy)
  · rw [nI_clamp (by omega)]
    refine sm_st I hc hi eh eo ek C x _ ?_ (fun _ => pk_us) (fun y hy hy2 => ?_)
    · have : ¬ h = o := fun z2 => by have := hk z2; omega
      rw [pk_un (by omega), pk_us]
    · rw [pk_un (hy2 hik), pk_un hy]
end
section
theorem sx_noKey1 {post : Int32 → Prop} {p : Int32} (h : p < 0 ∨ ¬ p < 32) (hp : post 1) : wpX_isNoKey post p := by
  by_cases h0 : p < 0
  · exact br_t h0 hp
  · rcases h with h | h
    · exact absurd h h0
    · exact br_f h0 (br_f h hp)
theorem sx_noKey0 {post : Int32 → Prop} {kk : Nat} (h : kk < 32) (hp : post 0) : wpX_isNoKey post (nI kk) :=
  br_f (nI_pos (by omega)) (br_t (nI_lt (b := 32) h (by decide)) hp)
theorem sm_k7 {kk : Nat} (h : kk < 32) : nI kk &&& 7 = nI (kk % 8) := pk_andN (by omega) 3 (by decide)
theorem sm_k3 {kk : Nat} (h : kk < 32) : nI kk >>> ((3 : Int32) &&& 31) = nI (kk / 8) := pk_shrN (by omega) _ 3 (by decide)
def sm_af (p0 p2 b : Int32) : Int32 := if p0 = 0 then p2 else if p0 = 1 then b + p2 else 0
def sm_an (p0 p2 b : Int32) : Int32 := if p0 = 1 then sm_af p0 p2 b else b
def sm_th (p0 : Int32) : Int32 := if p0 = 2 then 0 else 1
def sm_B1 (A : Nat → Nat → Int32) (kk : Nat) (p0 p2 : Int32) : Nat → Nat → Int32 :=
  sm_up (sm_up A (kk % 8) (kk / 8) (sm_th p0)) (kk % 8) (4 + kk / 8) (sm_af p0 p2 (A (kk % 8) (4 + kk / 8)))
def sm_B (A : Nat → Nat → Int32) (kk j : Nat) (p0 num p2 : Int32) : Nat → Nat → Int32 :=
  sm_up (sm_up (sm_up (sm_B1 A kk p0 p2) (kk % 8) (8 + j) 1) (kk % 8) (12 + j) num) (kk % 8) (16 + j) (sm_an p0 p2 (A (kk % 8) (4 + kk / 8)))
theorem sx_64 {A : Nat → Nat → Int32} {m w hm ho cp : Nat → Int32} (I : sm_I A m w hm ho cp) {c s : Nat} (hc : c < 8) (hs : s < 4) (x1 x6 x7 z0 : Int32) {post : Int32 → SX → Prop} (hp : ∀ m' w', sm_I (sm_up (sm_up A c s z0) c (4 + s) x7) m' w' hm ho cp → post (if x1 = 1 then x7 else x6) (m', w', hm, ho, cp)) : wX_carryOut_64 post x1 (nI c) (nI s) x6 x7 z0 (0 + nI s) (nI c) m w hm ho cp := by
  have e0 : (0 : Int32) + nI s = nI s := Int32.zero_add _
  have e4 : (4 : Int32) + nI s = nI (4 + s) := nI_add 4 s
  unfold wX_carryOut_64
  rw [e0, e4]
  refine sx_store I hc (by omega) _ (fun m1 w1 I1 => ?_)
  refine sx_store I1 hc (by omega) _ (fun m2 w2 I2 => ?_)
  have q := hp m2 w2 I2
  by_cases e : x1 = 1
  · rw [if_pos e] at q
    exact br_t e q
  · rw [if_neg e] at q
    exact br_f e q
theorem sx_47 {A : Nat → Nat → Int32} {m w hm ho cp : Nat → Int32} (I : sm_I A m w hm ho cp) {c s : Nat} (hc : c < 8) (hs : s < 4) (x1 x6 x7 : Int32) {post : Int32 → SX → Prop} (hp : ∀ m' w', sm_I (sm_up (sm_up A c s (sm_th x1)) c (4 + s) x7) m' w' hm ho cp → post (if x1 = 1 then x7 else x6) (m', w', hm, ho, cp)) : wX_carryOut_47 post x1 (nI c) (nI s) x6 x7 m w hm ho cp := by
  unfold sm_th at hp
  by_cases e : x1 = 2
  · rw [if_pos e] at hp
    exact br_t e (sx_64 I hc hs x1 x6 x7 0 hp)
  · rw [if_neg e] at hp
    exact br_f e (sx_64 I hc hs x1 x6 x7 1 hp)
theorem sx_carry {A : Nat → Nat → Int32} {m w hm ho cp : Nat → Int32} (I : sm_I A m w hm ho cp) {kk : Nat} (hkk : kk < 32) (p0 p2 : Int32) {post : Int32 → SX → Prop} (hp : ∀ m' w', sm_I (sm_B1 A kk p0 p2) m' w' hm ho cp → post (sm_an p0 p2 (A (kk % 8) (4 + kk / 8))) (m', w', hm, ho, cp)) : wpX_carryOut post (m, w, hm, ho, cp) p0 (nI kk) p2 := by
  have e4 : (4 : Int32) + nI (kk / 8) = nI (4 + kk / 8) := nI_add 4 _
  refine nm_r (sm_k7 hkk) (nm_r (sm_k3 hkk) ?_)
  rw [e4]
  refine sx_load I (by omega) (by omega) ?_
  unfold sm_B1 sm_an sm_af at hp
  by_cases e : p0 = 0
  · rw [if_pos e] at hp
    exact br_t e (sx_47 I (by omega) (by omega) _ _ _ hp)
  · rw [if_neg e] at hp
    by_cases e1 : p0 = 1
    · rw [if_pos e1] at hp
      exact br_f e (br_t e1 (nm_e (sx_47 I (by omega) (by omega) _ _ _ hp)))
    · rw [if_neg e1] at hp
      exact br_f e (br_f e1 (sx_47 I (by omega) (by omega) _ _ _ hp))
theorem sx_78 {A : Nat → Nat → Int32} {m w hm ho cp : Nat → Int32} (I : sm_I A m w hm ho cp) {kk j : Nat} (hkk : kk < 32) (hj : j < 4) (x1 x3 x5 : Int32) {post : Int32 → SX → Prop} (hp : ∀ m' w', sm_I (sm_B A kk j x1 x3 x5) m' w' hm ho cp → post (sm_an x1 x5 (A (kk % 8) (4 + kk / 8))) (m', w', hm, ho, cp)) : wX_request_78 post x1 (nI j) x3 (nI kk) x5 (nI (kk % 8)) m w hm ho cp := by
  have e8 : (8 : Int32) + nI j = nI (8 + j) := nI_add 8 j
  have e12 : (12 : Int32) + nI j = nI (12 + j) := nI_add 12 j
  have e16 : (16 : Int32) + nI j = nI (16 + j) := nI_add 16 j
  unfold wX_request_78
  rw [e8, e12, e16]
  refine sx_carry I hkk _ _ (fun m1 w1 I1 => ?_)
  refine sx_store I1 (by omega) (by omega) _ (fun m2 w2 I2 => ?_)
  refine sx_store I2 (by omega) (by omega) _ (fun m3 w3 I3 => ?_)
  refine sx_store I3 (by omega) (by omega) _ (fun m4 w4 I4 => ?_)
  exact hp m4 w4 I4
theorem sx_bad {m w hm ho cp : Nat → Int32} {p0 p1 p2 p3 p4 : Int32} {post : Int32 → SX → Prop} (h : p1 < 0 ∨ 4 ≤ p1 ∨ p3 < 0 ∨ ¬ p3 < 32) (hp : post (-2) (m, w, hm, ho, cp)) : wpX_request post (m, w, hm, ho, cp) p0 p1 p2 p3 p4 := by
  by_cases h0 : p1 < 0
  · exact br_t h0 hp
  · by_cases h1 : 4 ≤ p1
    · exact br_f h0 (br_t h1 hp)
    · refine br_f h0 (br_f h1 (sx_noKey1 ?_ (br_f (by decide) hp)))
      rcases h with h | h | h
      · exact absurd h h0
      · exact absurd h h1
      · exact h
theorem sx_req {A : Nat → Nat → Int32} {m w hm ho cp : Nat → Int32} (I : sm_I A m w hm ho cp) {kk j : Nat} (hkk : kk < 32) (hj : j < 4) (p0 p2 p4 : Int32) {post : Int32 → SX → Prop}
    (h1 : A (kk % 8) (8 + j) = 1 → A (kk % 8) (12 + j) = p2 → post (A (kk % 8) (16 + j)) (m, w, hm, ho, cp))
    (h2 : A (kk % 8) (8 + j) = 1 → ¬ A (kk % 8) (12 + j) = p2 → ¬ A (kk % 8) (12 + j) ≤ p2 → post (-1) (m, w, hm, ho, cp))
    (h3 : (A (kk % 8) (8 + j) = 1 → ¬ A (kk % 8) (12 + j) = p2 ∧ A (kk % 8) (12 + j) ≤ p2) → ∀ m' w', sm_I (sm_B A kk j p0 p2 p4) m' w' hm ho cp → post (sm_an p0 p4 (A (kk % 8) (4 + kk / 8))) (m', w', hm, ho, cp)) : wpX_request post (m, w, hm, ho, cp) p0 (nI j) p2 (nI kk) p4 := by
  have e8 : (8 : Int32) + nI j = nI (8 + j) := nI_add 8 j
  have e12 : (12 : Int32) + nI j = nI (12 + j) := nI_add 12 j
  have e16 : (16 : Int32) + nI j = nI (16 + j) := nI_add 16 j
  refine br_f (nI_pos (by omega)) (br_f (nI_ge (b := 4) hj (by decide)) (sx_noKey0 hkk (br_t rfl (nm_r (sm_k7 hkk) ?_))))
  rw [e8, e12, e16]
  refine sx_load I (by omega) (by omega) ?_
  by_cases z1 : A (kk % 8) (8 + j) = 1
  · refine br_t z1 (sx_load I (by omega) (by omega) ?_)
    by_cases z2 : A (kk % 8) (12 + j) = p2
    · exact br_t z2 (sx_load I (by omega) (by omega) (h1 z1 z2))
    · by_cases z3 : A (kk % 8) (12 + j) ≤ p2
      · exact br_f z2 (br_t z3 (sx_78 I hkk hj _ _ _ (h3 (fun _ => ⟨z2, z3⟩))))
      · exact br_f z2 (br_f z3 (h2 z1 z2 z3))
  · exact br_f z1 (sx_78 I hkk hj _ _ _ (h3 (fun z => absurd z z1)))
theorem sx_getn {m w hm ho cp : Nat → Int32} {p : Int32} {post : Int32 → Prop} (h : p < 0 ∨ ¬ p < 32) (hp : post 0) : wpX_get post (m, w, hm, ho, cp) p := by
  unfold wpX_get
  exact sx_noKey1 h (br_f (by decide) hp)
theorem sx_hasn {m w hm ho cp : Nat → Int32} {p : Int32} {post : Int32 → Prop} (h : p < 0 ∨ ¬ p < 32) (hp : post 0) : wpX_has post (m, w, hm, ho, cp) p := by
  unfold wpX_has
  exact sx_noKey1 h (br_f (by decide) hp)
theorem sx_get {A : Nat → Nat → Int32} {m w hm ho cp : Nat → Int32} (I : sm_I A m w hm ho cp) {kk : Nat} (hkk : kk < 32) {post : Int32 → Prop} (hp : post (A (kk % 8) (4 + kk / 8))) : wpX_get post (m, w, hm, ho, cp) (nI kk) := by
  have e4 : (4 : Int32) + nI (kk / 8) = nI (4 + kk / 8) := nI_add 4 _
  unfold wpX_get
  refine sx_noKey0 hkk (br_t rfl ?_)
  rw [sm_k7 hkk, sm_k3 hkk, e4]
  exact sx_load I (by omega) (by omega) hp
theorem sx_has {A : Nat → Nat → Int32} {m w hm ho cp : Nat → Int32} (I : sm_I A m w hm ho cp) {kk : Nat} (hkk : kk < 32) {post : Int32 → Prop} (hp : post (if A (kk % 8) (kk / 8) = 1 then 1 else 0)) : wpX_has post (m, w, hm, ho, cp) (nI kk) := by
  have e0 : (0 : Int32) + nI (kk / 8) = nI (kk / 8) := Int32.zero_add _
  unfold wpX_has
  refine sx_noKey0 hkk (br_t rfl ?_)
  rw [sm_k7 hkk, sm_k3 hkk, e0]
  refine sx_load I (by omega) (by omega) ?_
  by_cases z : A (kk % 8) (kk / 8) = 1
  · rw [if_pos z] at hp
    exact br_t z hp
  · rw [if_neg z] at hp
    exact br_f z hp
theorem sx_size {A : Nat → Nat → Int32} {m w hm ho cp : Nat → Int32} (I : sm_I A m w hm ho cp) {c : Nat} (hc : c < 8) {p : Int32} (ep : p &&& 7 = nI c) {post : Int32 → Prop} (hp : post (A c 0 + A c 1 + A c 2 + A c 3)) : wpX_size post (m, w, hm, ho, cp) p := by
  have st : ∀ (n j : Nat) (x : Int32), j < 4 → wX_size_4 post p m w hm ho cp n (x + A c j) (nI (j + 1)) → wX_size_4 post p m w hm ho cp (n + 1) x (nI j) := by
    intro n j x hj hn
    have e0 : (0 : Int32) + nI j = nI j := Int32.zero_add _
    refine br_f (nI_ge (b := 4) hj (by decide)) ?_
    rw [ep, e0]
    exact sx_load I hc (by omega) (nm_e (nm_r (nI_1 j) hn))
  refine ⟨5, st 4 0 0 (by omega) (st 3 1 _ (by omega) (st 2 2 _ (by omega) (st 1 3 _ (by omega) (br_t (nI_le (a := 4) (b := 4) (by omega) (by decide)) ?_))))⟩
  rw [Int32.zero_add]
  exact hp
end
section
theorem sm_end : True := trivial
end
