theorem sm_c4 {x : Int32} (h : nI 4 ≤ x) : 4 ≤ x ∧ 3 < x := by
  have e4 : (nI 4).toInt = 4 := by decide
  have e3 : (3 : Int32).toInt = 3 := by decide
  refine ⟨h, ?_⟩
  rw [Int32.le_iff_toInt_le, e4] at h
  rw [Int32.lt_iff_toInt_lt, e3]
  omega
theorem sm_c32 {x : Int32} (h : nI 32 ≤ x) : 32 ≤ x ∧ ¬ x < 32 ∧ ¬ x ≤ 31 := by
  have e32 : (nI 32).toInt = 32 := by decide
  have f32 : (32 : Int32).toInt = 32 := by decide
  have e31 : (31 : Int32).toInt = 31 := by decide
  refine ⟨h, ?_, ?_⟩
  · rw [Int32.le_iff_toInt_le, e32] at h
    rw [Int32.lt_iff_toInt_lt, f32]
    omega
  · rw [Int32.le_iff_toInt_le, e32] at h
    rw [Int32.le_iff_toInt_le, e31]
    omega
theorem sm_key (k : Int32) : ((k < 0 ∨ ¬ k < 32) ∧ (k < 0 ∨ ¬ k ≤ 31) ∧ (k < 0 ∨ 32 ≤ k)) ∨ ∃ kk, kk < 32 ∧ k = nI kk := by
  rcases pk_ix k (n := 32) (by decide) with h | h | h
  · exact Or.inl ⟨Or.inl h, Or.inl h, Or.inl h⟩
  · exact Or.inl ⟨Or.inr (sm_c32 h).2.1, Or.inr (sm_c32 h).2.2, Or.inr (sm_c32 h).1⟩
  · exact Or.inr h
theorem sm_cases (c k : Int32) : ((c < 0 ∨ 4 ≤ c ∨ k < 0 ∨ ¬ k < 32) ∧ (c < 0 ∨ 3 < c ∨ k < 0 ∨ ¬ k ≤ 31)) ∨ ∃ j kk, j < 4 ∧ kk < 32 ∧ c = nI j ∧ k = nI kk := by
  rcases pk_ix c (n := 4) (by decide) with h | h | ⟨j, hj, h⟩
  · exact Or.inl ⟨Or.inl h, Or.inl h⟩
  · exact Or.inl ⟨Or.inr (Or.inl (sm_c4 h).1), Or.inr (Or.inl (sm_c4 h).2)⟩
  · rcases sm_key k with h2 | ⟨kk, hkk, h2⟩
    · exact Or.inl ⟨Or.inr (Or.inr h2.1), Or.inr (Or.inr h2.2.1)⟩
    · exact Or.inr ⟨j, kk, hj, hkk, h, h2⟩
theorem sy_putn {v : SY} {p0 p1 p2 p3 : Int32} (h : p0 < 0 ∨ 3 < p0 ∨ p2 < 0 ∨ ¬ p2 ≤ 31) {post : Int32 → SY → Prop} (hp : post (-2) v) : wpY_put post v p0 p1 p2 p3 := by
  obtain ⟨a, b, c, d, e, f⟩ := v
  unfold wpY_put
  exact sy_bad1 h (br_f (by decide) hp)
theorem sy_addTon {v : SY} {p0 p1 p2 p3 : Int32} (h : p0 < 0 ∨ 3 < p0 ∨ p2 < 0 ∨ ¬ p2 ≤ 31) {post : Int32 → SY → Prop} (hp : post (-2) v) : wpY_addTo post v p0 p1 p2 p3 := by
  obtain ⟨a, b, c, d, e, f⟩ := v
  unfold wpY_addTo
  exact sy_bad1 h (br_f (by decide) hp)
theorem sy_removen {v : SY} {p0 p1 p2 : Int32} (h : p0 < 0 ∨ 3 < p0 ∨ p2 < 0 ∨ ¬ p2 ≤ 31) {post : Int32 → SY → Prop} (hp : post (-2) v) : wpY_remove post v p0 p1 p2 := by
  obtain ⟨a, b, c, d, e, f⟩ := v
  unfold wpY_remove
  exact sy_bad1 h (br_f (by decide) hp)
