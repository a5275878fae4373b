def i_Rel (k : Nat) (u : SX) (v : SY) : Prop := ∃ (A : Nat → Nat → Int32) (m w hm ho cp there value rem num ans : Nat → Int32), u = (m, w, hm, ho, cp) ∧ v = (there, value, rem, num, ans, hm) ∧ sm_I A m w hm ho cp ∧ sm_R A there value rem num ans
theorem i_up {k : Nat} {u : SX} {v : SY} (h : i_Rel k u v) : i_Rel (k + 5) u v := h
theorem sm_rel {k : Nat} {A : Nat → Nat → Int32} {m w hm ho cp there value rem num ans : Nat → Int32} (I : sm_I A m w hm ho cp) (R : sm_R A there value rem num ans) : i_Rel k (m, w, hm, ho, cp) (there, value, rem, num, ans, hm) :=
  ⟨A, m, w, hm, ho, cp, there, value, rem, num, ans, rfl, rfl, I, R⟩
theorem i_vc0 : wpX_init (fun u => wpY_init (fun v => i_Rel 0 u v)) :=
  sx_init (sy_init (sm_rel sm_I0 sm_R0))
theorem i_vc_put {k : Nat} {u : SX} {v : SY} (I : i_Rel k u v) (hk : k + 5 ≤ 2560) (v1 : Int32) (v2 : Int32) (v3 : Int32) (v4 : Int32) : wpX_put (fun r u' => wpY_put (fun r' v' => r' = r ∧ i_Rel (k + 5) u' v') v v1 v2 v3 v4) u v1 v2 v3 v4 := by
  obtain ⟨A, m, w, hm, ho, cp, there, value, rem, num, ans, rfl, rfl, I, R⟩ := I
  unfold wpX_put
  rcases sm_cases v1 v3 with ⟨b1, b2⟩ | ⟨j, kk, hj, hkk, rfl, rfl⟩
  · exact sx_bad b1 (sy_putn b2 ⟨rfl, sm_rel I R⟩)
  · refine sx_req I hkk hj 0 v2 v4 (fun z1 z2 => ?_) (fun z1 z2 z3 => ?_) (fun hc m' w' I' => ?_)
    · exact sy_put R hkk hj v2 v4 (fun _ _ => ⟨rfl, sm_rel I R⟩) (fun _ n _ => absurd z2 n) (fun n => absurd z2 (n z1).1)
    · exact sy_put R hkk hj v2 v4 (fun _ n => absurd n z2) (fun _ _ _ => ⟨rfl, sm_rel I R⟩) (fun n => absurd (n z1).2 z3)
    · exact sy_put R hkk hj v2 v4 (fun n1 n2 => absurd n2 (hc n1).1) (fun n1 _ n3 => absurd (hc n1).2 n3) (fun _ _ _ _ _ _ R' => ⟨rfl, sm_rel I' R'⟩)
theorem i_vc_addTo {k : Nat} {u : SX} {v : SY} (I : i_Rel k u v) (hk : k + 5 ≤ 2560) (v1 : Int32) (v2 : Int32) (v3 : Int32) (v4 : Int32) : wpX_addTo (fun r u' => wpY_addTo (fun r' v' => r' = r ∧ i_Rel (k + 5) u' v') v v1 v2 v3 v4) u v1 v2 v3 v4 := by
  obtain ⟨A, m, w, hm, ho, cp, there, value, rem, num, ans, rfl, rfl, I, R⟩ := I
  unfold wpX_addTo
  rcases sm_cases v1 v3 with ⟨b1, b2⟩ | ⟨j, kk, hj, hkk, rfl, rfl⟩
  · exact sx_bad b1 (sy_addTon b2 ⟨rfl, sm_rel I R⟩)
  · refine sx_req I hkk hj 1 v2 v4 (fun z1 z2 => ?_) (fun z1 z2 z3 => ?_) (fun hc m' w' I' => ?_)
    · exact sy_addTo R hkk hj v2 v4 (fun _ _ => ⟨rfl, sm_rel I R⟩) (fun _ n _ => absurd z2 n) (fun n => absurd z2 (n z1).1)
    · exact sy_addTo R hkk hj v2 v4 (fun _ n => absurd n z2) (fun _ _ _ => ⟨rfl, sm_rel I R⟩) (fun n => absurd (n z1).2 z3)
    · exact sy_addTo R hkk hj v2 v4 (fun n1 n2 => absurd n2 (hc n1).1) (fun n1 _ n3 => absurd (hc n1).2 n3) (fun _ _ _ _ _ _ R' => ⟨rfl, sm_rel I' R'⟩)
theorem i_vc_remove {k : Nat} {u : SX} {v : SY} (I : i_Rel k u v) (hk : k + 5 ≤ 2560) (v1 : Int32) (v2 : Int32) (v3 : Int32) : wpX_remove (fun r u' => wpY_remove (fun r' v' => r' = r ∧ i_Rel (k + 5) u' v') v v1 v2 v3) u v1 v2 v3 := by
  obtain ⟨A, m, w, hm, ho, cp, there, value, rem, num, ans, rfl, rfl, I, R⟩ := I
  unfold wpX_remove
  rcases sm_cases v1 v3 with ⟨b1, b2⟩ | ⟨j, kk, hj, hkk, rfl, rfl⟩
  · exact sx_bad b1 (sy_removen b2 ⟨rfl, sm_rel I R⟩)
  · refine sx_req I hkk hj 2 v2 0 (fun z1 z2 => ?_) (fun z1 z2 z3 => ?_) (fun hc m' w' I' => ?_)
    · exact sy_remove R hkk hj v2 (fun _ _ => ⟨rfl, sm_rel I R⟩) (fun _ n _ => absurd z2 n) (fun n => absurd z2 (n z1).1)
    · exact sy_remove R hkk hj v2 (fun _ n => absurd n z2) (fun _ _ _ => ⟨rfl, sm_rel I R⟩) (fun n => absurd (n z1).2 z3)
    · exact sy_remove R hkk hj v2 (fun n1 n2 => absurd n2 (hc n1).1) (fun n1 _ n3 => absurd (hc n1).2 n3) (fun _ _ _ _ _ _ R' => ⟨rfl, sm_rel I' R'⟩)
theorem i_vc_get {k : Nat} {u : SX} {v : SY} (I : i_Rel k u v) (hk : k + 5 ≤ 2560) (v1 : Int32) : wpX_get (fun r => wpY_get (fun r' => r' = r ∧ i_Rel (k + 5) u v) v v1) u v1 := by
  obtain ⟨A, m, w, hm, ho, cp, there, value, rem, num, ans, rfl, rfl, I, R⟩ := I
  rcases sm_key v1 with ⟨b1, b2, b3⟩ | ⟨kk, hkk, rfl⟩
  · exact sx_getn b1 (sy_getn b3 ⟨rfl, sm_rel I R⟩)
  · exact sx_get I hkk (sy_get R hkk ⟨rfl, sm_rel I R⟩)
theorem i_vc_has {k : Nat} {u : SX} {v : SY} (I : i_Rel k u v) (hk : k + 5 ≤ 2560) (v1 : Int32) : wpX_has (fun r => wpY_has (fun r' => r' = r ∧ i_Rel (k + 5) u v) v v1) u v1 := by
  obtain ⟨A, m, w, hm, ho, cp, there, value, rem, num, ans, rfl, rfl, I, R⟩ := I
  rcases sm_key v1 with ⟨b1, b2, b3⟩ | ⟨kk, hkk, rfl⟩
  · exact sx_hasn b1 (sy_hasn b3 ⟨rfl, sm_rel I R⟩)
  · exact sx_has I hkk (sy_has R hkk ⟨rfl, sm_rel I R⟩)
theorem i_vc_size {k : Nat} {u : SX} {v : SY} (I : i_Rel k u v) (hk : k + 5 ≤ 2560) (v1 : Int32) : wpX_size (fun r => wpY_size (fun r' => r' = r ∧ i_Rel (k + 5) u v) v v1) u v1 := by
  obtain ⟨A, m, w, hm, ho, cp, there, value, rem, num, ans, rfl, rfl, I, R⟩ := I
  obtain ⟨c, hc, ec⟩ := pk_andE v1 (m := 7) 3 (by decide)
  exact sx_size I hc ec (sy_size R hc ec ⟨rfl, sm_rel I R⟩)
theorem i_vc_lastFrom {k : Nat} {u : SX} {v : SY} (I : i_Rel k u v) (hk : k + 5 ≤ 2560) (v1 : Int32) : wpX_lastFrom (fun r => wpY_lastFrom (fun r' => r' = r ∧ i_Rel (k + 5) u v) v v1) u v1 := by
  obtain ⟨A, m, w, hm, ho, cp, there, value, rem, num, ans, rfl, rfl, I, R⟩ := I
  obtain ⟨r, hX, hY⟩ := sm_last (homes := hm) I R v1 32 (by omega)
  have e : nI 32 + (-1) = 31 := by decide
  rw [e] at hX hY
  exact ⟨33, hX _ ⟨33, hY _ ⟨rfl, sm_rel I R⟩⟩⟩
theorem i_vc_assign {k : Nat} {u : SX} {v : SY} (I : i_Rel k u v) (hk : k + 5 ≤ 2560) (v1 : Int32) (v2 : Int32) : wpX_assign (fun r u' => wpY_assign (fun r' v' => r' = r ∧ i_Rel (k + 5) u' v') v v1 v2) u v1 v2 := by
  obtain ⟨A, m, w, hm, ho, cp, there, value, rem, num, ans, rfl, rfl, I, R⟩ := I
  obtain ⟨c, hc, ec⟩ := pk_andE v1 (m := 7) 3 (by decide)
  obtain ⟨g, hg, eg⟩ := pk_andE v2 (m := 3) 2 (by decide)
  refine sx_assign I hc hg ec eg (fun cp' I' => ?_)
  have hi : vp_in (nI c) 8 := vp_in_nI hc (by decide)
  unfold wpY_assign
  dsimp only
  rw [ec, eg, nI_clamp (Nat.lt_trans hc (by decide))]
  exact ⟨hi, nm_e ⟨hi, nm_e ⟨rfl, sm_rel I' R⟩⟩⟩
theorem i_vc_home {k : Nat} {u : SX} {v : SY} (I : i_Rel k u v) (hk : k + 5 ≤ 2560) (v1 : Int32) : wpX_home (fun r => wpY_home (fun r' => r' = r ∧ i_Rel (k + 5) u v) v v1) u v1 := by
  obtain ⟨A, m, w, hm, ho, cp, there, value, rem, num, ans, rfl, rfl, I, R⟩ := I
  have hi : vp_in (v1 &&& 7) 8 := pk_andIn v1 3 (by decide) (by decide)
  exact ⟨hi, hi, rfl, sm_rel I R⟩
theorem i_vc_work {k : Nat} {u : SX} {v : SY} (I : i_Rel k u v) (hk : k + 5 ≤ 2560) (v1 : Int32) : wpX_work (fun u' => wpY_work (fun v' => i_Rel (k + 5) u' v') v v1) u v1 := by
  obtain ⟨A, m, w, hm, ho, cp, there, value, rem, num, ans, rfl, rfl, I, R⟩ := I
  exact sx_work I v1 (fun _ _ _ _ I' => sm_rel (k := k + 5) I' R)
theorem i_vc_lose {k : Nat} {u : SX} {v : SY} (I : i_Rel k u v) (hk : k + 5 ≤ 2560) (v1 : Int32) : wpX_lose (fun u' => wpY_lose (fun v' => i_Rel (k + 5) u' v') v v1) u v1 := by
  obtain ⟨A, m, w, hm, ho, cp, there, value, rem, num, ans, rfl, rfl, I, R⟩ := I
  exact sx_lose I v1 (fun _ _ _ _ I' => sm_rel (k := k + 5) I' R)
