/-- the reference's arrays hold the table A: key kk is slot kk / 8 of class kk % 8 -/
def sm_R (A : Nat → Nat → Int32) (there value rem num ans : Nat → Int32) : Prop :=
  (∀ kk, kk < 32 → A (kk % 8) (kk / 8) = there kk ∧ (there kk = 0 ∨ there kk = 1) ∧ A (kk % 8) (4 + kk / 8) = if there kk = 0 then 0 else value kk) ∧
  (∀ c j, c < 8 → j < 4 → A c (8 + j) = rem (4 * c + j) ∧ (rem (4 * c + j) = 0 ∨ rem (4 * c + j) = 1) ∧ A c (12 + j) = num (4 * c + j) ∧ A c (16 + j) = ans (4 * c + j))
theorem sm_R0 : sm_R (fun _ _ => 0) (fun _ => 0) (fun _ => 0) (fun _ => 0) (fun _ => 0) (fun _ => 0) :=
  ⟨fun _ _ => ⟨rfl, Or.inl rfl, rfl⟩, fun _ _ _ _ => ⟨rfl, Or.inl rfl, rfl, rfl⟩⟩
theorem sm_RB {A : Nat → Nat → Int32} {there value rem num ans : Nat → Int32} (R : sm_R A there value rem num ans) {kk j : Nat} (hkk : kk < 32) (hj : j < 4) (p0 p2 p4 : Int32) (there' value' : Nat → Int32)
    (ht : there' kk = sm_th p0) (htn : ∀ y, y ≠ kk → there' y = there y) (hv : sm_af p0 p4 (A (kk % 8) (4 + kk / 8)) = if there' kk = 0 then 0 else value' kk) (hvn : ∀ y, y ≠ kk → value' y = value y) :
    sm_R (sm_B A kk j p0 p2 p4) there' value' (upd rem (4 * (kk % 8) + j) 1) (upd num (4 * (kk % 8) + j) p2) (upd ans (4 * (kk % 8) + j) (sm_an p0 p4 (A (kk % 8) (4 + kk / 8)))) := by
  refine ⟨fun k2 hk2 => ?_, fun c i hc hi => ?_⟩
  · unfold sm_B
    rw [sm_upn (by omega), sm_upn (by omega), sm_upn (by omega), sm_upn (by omega), sm_upn (by omega), sm_upn (by omega)]
    unfold sm_B1
    by_cases e : k2 = kk
    · subst e
      rw [sm_upn (by omega), sm_ups, sm_ups]
      refine ⟨ht.symm, ?_, hv⟩
      rw [ht]
      unfold sm_th
      by_cases z : p0 = 2
      · exact Or.inl (if_pos z)
      · exact Or.inr (if_neg z)
    · rw [sm_upn (by omega), sm_upn (by omega), sm_upn (by omega), sm_upn (by omega), htn k2 e, hvn k2 e]
      exact R.1 k2 hk2
  · obtain ⟨r1, r2, r3, r4⟩ := R.2 c i hc hi
    unfold sm_B
    by_cases e : 4 * c + i = 4 * (kk % 8) + j
    · have ec : c = kk % 8 := by omega
      have ei : i = j := by omega
      subst ec
      subst ei
      rw [sm_upn (by omega), sm_upn (by omega), sm_ups, sm_upn (by omega), sm_ups, sm_ups, pk_us, pk_us, pk_us]
      exact ⟨rfl, Or.inr rfl, rfl, rfl⟩
    · unfold sm_B1
      rw [sm_upn (by omega), sm_upn (by omega), sm_upn (by omega), sm_upn (by omega), sm_upn (by omega), sm_upn (by omega), sm_upn (by omega), sm_upn (by omega), sm_upn (by omega), sm_upn (by omega), sm_upn (by omega), sm_upn (by omega), sm_upn (by omega), sm_upn (by omega), sm_upn (by omega), pk_un e, pk_un e, pk_un e]
      exact ⟨r1, r2, r3, r4⟩
theorem sy_bad1 {post : Int32 → Prop} {p0 p1 : Int32} (h : p0 < 0 ∨ 3 < p0 ∨ p1 < 0 ∨ ¬ p1 ≤ 31) (hp : post 1) : wpY_bad post p0 p1 := by
  by_cases h0 : p0 < 0
  · exact br_t h0 hp
  · by_cases h1 : 3 < p0
    · exact br_f h0 (br_t h1 hp)
    · by_cases h2 : p1 < 0
      · exact br_f h0 (br_f h1 (br_t h2 hp))
      · by_cases h3 : p1 ≤ 31
        · rcases h with h | h | h | h
          · exact absurd h h0
          · exact absurd h h1
          · exact absurd h h2
          · exact absurd h3 h
        · exact br_f h0 (br_f h1 (br_f h2 (br_f h3 hp)))
theorem sy_bad0 {post : Int32 → Prop} {j kk : Nat} (hj : j < 4) (hkk : kk < 32) (hp : post 0) : wpY_bad post (nI j) (nI kk) :=
  br_f (nI_pos (by omega)) (br_f (nI_nlt (a := 3) (b := j) (by omega) (by omega)) (br_f (nI_pos (by omega)) (br_t (nI_le (b := 31) (by omega) (by decide)) hp)))
