theorem sx_noKey1 {post : Int32 → Prop} {p : Int32} (h : p < 0 ∨ ¬ p < 32) (hp : post 1) : wpX_isNoKey post p := by
  by_cases h0 : p < 0
  · exact br_t h0 hp
  · rcases h with h | h
    · exact absurd h h0
    · exact br_f h0 (br_f h hp)
theorem sx_noKey0 {post : Int32 → Prop} {kk : Nat} (h : kk < 32) (hp : post 0) : wpX_isNoKey post (nI kk) :=
  br_f (nI_pos (by omega)) (br_t (nI_lt (b := 32) h (by decide)) hp)
theorem sm_k7 {kk : Nat} (h : kk < 32) : nI kk &&& 7 = nI (kk % 8) := pk_andN (by omega) 3 (by decide)
theorem sm_k3 {kk : Nat} (h : kk < 32) : nI kk >>> ((3 : Int32) &&& 31) = nI (kk / 8) := pk_shrN (by omega) _ 3 (by decide)
def sm_af (p0 p2 b : Int32) : Int32 := if p0 = 0 then p2 else if p0 = 1 then b + p2 else 0
def sm_an (p0 p2 b : Int32) : Int32 := if p0 = 1 then sm_af p0 p2 b else b
def sm_th (p0 : Int32) : Int32 := if p0 = 2 then 0 else 1
def sm_B1 (A : Nat → Nat → Int32) (kk : Nat) (p0 p2 : Int32) : Nat → Nat → Int32 :=
  sm_up (sm_up A (kk % 8) (kk / 8) (sm_th p0)) (kk % 8) (4 + kk / 8) (sm_af p0 p2 (A (kk % 8) (4 + kk / 8)))
def sm_B (A : Nat → Nat → Int32) (kk j : Nat) (p0 num p2 : Int32) : Nat → Nat → Int32 :=
  sm_up (sm_up (sm_up (sm_B1 A kk p0 p2) (kk % 8) (8 + j) 1) (kk % 8) (12 + j) num) (kk % 8) (16 + j) (sm_an p0 p2 (A (kk % 8) (4 + kk / 8)))
theorem sx_64 {A : Nat → Nat → Int32} {m w hm ho cp : Nat → Int32} (I : sm_I A m w hm ho cp) {c s : Nat} (hc : c < 8) (hs : s < 4) (x1 x6 x7 z0 : Int32) {post : Int32 → SX → Prop} (hp : ∀ m' w', sm_I (sm_up (sm_up A c s z0) c (4 + s) x7) m' w' hm ho cp → post (if x1 = 1 then x7 else x6) (m', w', hm, ho, cp)) : wX_carryOut_64 post x1 (nI c) (nI s) x6 x7 z0 (0 + nI s) (nI c) m w hm ho cp := by
  have e0 : (0 : Int32) + nI s = nI s := Int32.zero_add _
  have e4 : (4 : Int32) + nI s = nI (4 + s) := nI_add 4 s
  unfold wX_carryOut_64
  rw [e0, e4]
  refine sx_store I hc (by omega) _ (fun m1 w1 I1 => ?_)
  refine sx_store I1 hc (by omega) _ (fun m2 w2 I2 => ?_)
  have q := hp m2 w2 I2
  by_cases e : x1 = 1
  · rw [if_pos e] at q
    exact br_t e q
  · rw [if_neg e] at q
    exact br_f e q
theorem sx_47 {A : Nat → Nat → Int32} {m w hm ho cp : Nat → Int32} (I : sm_I A m w hm ho cp) {c s : Nat} (hc : c < 8) (hs : s < 4) (x1 x6 x7 : Int32) {post : Int32 → SX → Prop} (hp : ∀ m' w', sm_I (sm_up (sm_up A c s (sm_th x1)) c (4 + s) x7) m' w' hm ho cp → post (if x1 = 1 then x7 else x6) (m', w', hm, ho, cp)) : wX_carryOut_47 post x1 (nI c) (nI s) x6 x7 m w hm ho cp := by
  unfold sm_th at hp
  by_cases e : x1 = 2
  · rw [if_pos e] at hp
    exact br_t e (sx_64 I hc hs x1 x6 x7 0 hp)
  · rw [if_neg e] at hp
    exact br_f e (sx_64 I hc hs x1 x6 x7 1 hp)
theorem sx_carry {A : Nat → Nat → Int32} {m w hm ho cp : Nat → Int32} (I : sm_I A m w hm ho cp) {kk : Nat} (hkk : kk < 32) (p0 p2 : Int32) {post : Int32 → SX → Prop} (hp : ∀ m' w', sm_I (sm_B1 A kk p0 p2) m' w' hm ho cp → post (sm_an p0 p2 (A (kk % 8) (4 + kk / 8))) (m', w', hm, ho, cp)) : wpX_carryOut post (m, w, hm, ho, cp) p0 (nI kk) p2 := by
  have e4 : (4 : Int32) + nI (kk / 8) = nI (4 + kk / 8) := nI_add 4 _
  refine nm_r (sm_k7 hkk) (nm_r (sm_k3 hkk) ?_)
  rw [e4]
  refine sx_load I (by omega) (by omega) ?_
  unfold sm_B1 sm_an sm_af at hp
  by_cases e : p0 = 0
  · rw [if_pos e] at hp
    exact br_t e (sx_47 I (by omega) (by omega) _ _ _ hp)
  · rw [if_neg e] at hp
    by_cases e1 : p0 = 1
    · rw [if_pos e1] at hp
      exact br_f e (br_t e1 (nm_e (sx_47 I (by omega) (by omega) _ _ _ hp)))
    · rw [if_neg e1] at hp
      exact br_f e (br_f e1 (sx_47 I (by omega) (by omega) _ _ _ hp))
theorem sx_78 {A : Nat → Nat → Int32} {m w hm ho cp : Nat → Int32} (I : sm_I A m w hm ho cp) {kk j : Nat} (hkk : kk < 32) (hj : j < 4) (x1 x3 x5 : Int32) {post : Int32 → SX → Prop} (hp : ∀ m' w', sm_I (sm_B A kk j x1 x3 x5) m' w' hm ho cp → post (sm_an x1 x5 (A (kk % 8) (4 + kk / 8))) (m', w', hm, ho, cp)) : wX_request_78 post x1 (nI j) x3 (nI kk) x5 (nI (kk % 8)) m w hm ho cp := by
  have e8 : (8 : Int32) + nI j = nI (8 + j) := nI_add 8 j
  have e12 : (12 : Int32) + nI j = nI (12 + j) := nI_add 12 j
  have e16 : (16 : Int32) + nI j = nI (16 + j) := nI_add 16 j
  unfold wX_request_78
  rw [e8, e12, e16]
  refine sx_carry I hkk _ _ (fun m1 w1 I1 => ?_)
  refine sx_store I1 (by omega) (by omega) _ (fun m2 w2 I2 => ?_)
  refine sx_store I2 (by omega) (by omega) _ (fun m3 w3 I3 => ?_)
  refine sx_store I3 (by omega) (by omega) _ (fun m4 w4 I4 => ?_)
  exact hp m4 w4 I4
theorem sx_bad {m w hm ho cp : Nat → Int32} {p0 p1 p2 p3 p4 : Int32} {post : Int32 → SX → Prop} (h : p1 < 0 ∨ 4 ≤ p1 ∨ p3 < 0 ∨ ¬ p3 < 32) (hp : post (-2) (m, w, hm, ho, cp)) : wpX_request post (m, w, hm, ho, cp) p0 p1 p2 p3 p4 := by
  by_cases h0 : p1 < 0
  · exact br_t h0 hp
  · by_cases h1 : 4 ≤ p1
    · exact br_f h0 (br_t h1 hp)
    · refine br_f h0 (br_f h1 (sx_noKey1 ?_ (br_f (by decide) hp)))
      rcases h with h | h | h
      · exact absurd h h0
      · exact absurd h h1
      · exact h
theorem sx_req {A : Nat → Nat → Int32} {m w hm ho cp : Nat → Int32} (I : sm_I A m w hm ho cp) {kk j : Nat} (hkk : kk < 32) (hj : j < 4) (p0 p2 p4 : Int32) {post : Int32 → SX → Prop}
    (h1 : A (kk % 8) (8 + j) = 1 → A (kk % 8) (12 + j) = p2 → post (A (kk % 8) (16 + j)) (m, w, hm, ho, cp))
    (h2 : A (kk % 8) (8 + j) = 1 → ¬ A (kk % 8) (12 + j) = p2 → ¬ A (kk % 8) (12 + j) ≤ p2 → post (-1) (m, w, hm, ho, cp))
    (h3 : (A (kk % 8) (8 + j) = 1 → ¬ A (kk % 8) (12 + j) = p2 ∧ A (kk % 8) (12 + j) ≤ p2) → ∀ m' w', sm_I (sm_B A kk j p0 p2 p4) m' w' hm ho cp → post (sm_an p0 p4 (A (kk % 8) (4 + kk / 8))) (m', w', hm, ho, cp)) : wpX_request post (m, w, hm, ho, cp) p0 (nI j) p2 (nI kk) p4 := by
  have e8 : (8 : Int32) + nI j = nI (8 + j) := nI_add 8 j
  have e12 : (12 : Int32) + nI j = nI (12 + j) := nI_add 12 j
  have e16 : (16 : Int32) + nI j = nI (16 + j) := nI_add 16 j
  refine br_f (nI_pos (by omega)) (br_f (nI_ge (b := 4) hj (by decide)) (sx_noKey0 hkk (br_t rfl (nm_r (sm_k7 hkk) ?_))))
  rw [e8, e12, e16]
  refine sx_load I (by omega) (by omega) ?_
  by_cases z1 : A (kk % 8) (8 + j) = 1
  · refine br_t z1 (sx_load I (by omega) (by omega) ?_)
    by_cases z2 : A (kk % 8) (12 + j) = p2
    · exact br_t z2 (sx_load I (by omega) (by omega) (h1 z1 z2))
    · by_cases z3 : A (kk % 8) (12 + j) ≤ p2
      · exact br_f z2 (br_t z3 (sx_78 I hkk hj _ _ _ (h3 (fun _ => ⟨z2, z3⟩))))
      · exact br_f z2 (br_f z3 (h2 z1 z2 z3))
  · exact br_f z1 (sx_78 I hkk hj _ _ _ (h3 (fun z => absurd z z1)))
theorem sx_getn {m w hm ho cp : Nat → Int32} {p : Int32} {post : Int32 → Prop} (h : p < 0 ∨ ¬ p < 32) (hp : post 0) : wpX_get post (m, w, hm, ho, cp) p := by
  unfold wpX_get
  exact sx_noKey1 h (br_f (by decide) hp)
theorem sx_hasn {m w hm ho cp : Nat → Int32} {p : Int32} {post : Int32 → Prop} (h : p < 0 ∨ ¬ p < 32) (hp : post 0) : wpX_has post (m, w, hm, ho, cp) p := by
  unfold wpX_has
  exact sx_noKey1 h (br_f (by decide) hp)
theorem sx_get {A : Nat → Nat → Int32} {m w hm ho cp : Nat → Int32} (I : sm_I A m w hm ho cp) {kk : Nat} (hkk : kk < 32) {post : Int32 → Prop} (hp : post (A (kk % 8) (4 + kk / 8))) : wpX_get post (m, w, hm, ho, cp) (nI kk) := by
  have e4 : (4 : Int32) + nI (kk / 8) = nI (4 + kk / 8) := nI_add 4 _
  unfold wpX_get
  refine sx_noKey0 hkk (br_t rfl ?_)
  rw [sm_k7 hkk, sm_k3 hkk, e4]
  exact sx_load I (by omega) (by omega) hp
theorem sx_has {A : Nat → Nat → Int32} {m w hm ho cp : Nat → Int32} (I : sm_I A m w hm ho cp) {kk : Nat} (hkk : kk < 32) {post : Int32 → Prop} (hp : post (if A (kk % 8) (kk / 8) = 1 then 1 else 0)) : wpX_has post (m, w, hm, ho, cp) (nI kk) := by
  have e0 : (0 : Int32) + nI (kk / 8) = nI (kk / 8) := Int32.zero_add _
  unfold wpX_has
  refine sx_noKey0 hkk (br_t rfl ?_)
  rw [sm_k7 hkk, sm_k3 hkk, e0]
  refine sx_load I (by omega) (by omega) ?_
  by_cases z : A (kk % 8) (kk / 8) = 1
  · rw [if_pos z] at hp
    exact br_t z hp
  · rw [if_neg z] at hp
    exact br_f z hp
theorem sx_size {A : Nat → Nat → Int32} {m w hm ho cp : Nat → Int32} (I : sm_I A m w hm ho cp) {c : Nat} (hc : c < 8) {p : Int32} (ep : p &&& 7 = nI c) {post : Int32 → Prop} (hp : post (A c 0 + A c 1 + A c 2 + A c 3)) : wpX_size post (m, w, hm, ho, cp) p := by
  have st : ∀ (n j : Nat) (x : Int32), j < 4 → wX_size_4 post p m w hm ho cp n (x + A c j) (nI (j + 1)) → wX_size_4 post p m w hm ho cp (n + 1) x (nI j) := by
    intro n j x hj hn
    have e0 : (0 : Int32) + nI j = nI j := Int32.zero_add _
    refine br_f (nI_ge (b := 4) hj (by decide)) ?_
    rw [ep, e0]
    exact sx_load I hc (by omega) (nm_e (nm_r (nI_1 j) hn))
  refine ⟨5, st 4 0 0 (by omega) (st 3 1 _ (by omega) (st 2 2 _ (by omega) (st 1 3 _ (by omega) (br_t (nI_le (a := 4) (b := 4) (by omega) (by decide)) ?_))))⟩
  rw [Int32.zero_add]
  exact hp
