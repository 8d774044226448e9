theorem i_up {k : Nat} {u : SX} {v : SY} (h : i_Rel k u v) : i_Rel (k + 4) u v := by
  exact rl_mono h (by omega)
theorem i_vc0 : wpX_init (fun u => wpY_init (fun v => i_Rel 0 u v)) := by
  obtain ⟨lt', hl, lX, lY⟩ := in_lt 8 0 (fun _ => 0) (by omega) (fun j hj => absurd hj (by omega))
  obtain ⟨pi', hpi, pX, pY⟩ := in_pi 6 0 (fun _ => 0) (by omega) (fun j hj => absurd hj (by omega))
  obtain ⟨pd', hpd, dX, dY⟩ := in_pd 5 0 (fun _ => 0) (by omega) (fun j hj => absurd hj (by omega))
  refine ⟨6, dX ⟨7, pX ⟨9, lX ?_⟩⟩⟩
  refine ⟨6, dY ⟨7, pY ⟨9, lY ?_⟩⟩⟩
  refine ⟨0, 0, 0, 4, fun _ => 0, fun _ => 0, fun _ => 0, fun _ => 0, pd', fun _ => 0, fun _ => 0, fun _ => 0, fun _ => 0, fun _ => 0, pi', fun _ => 0, fun _ => 0, lt', rfl, rfl, by omega, by omega, ⟨fun _ => 0, fun _ => 0, 0, 0, rfl, rfl, by omega, by omega, fun f hf => ⟨rfl, rfl, Nat.le_refl _, Nat.le_refl _⟩, fun f hf => Or.inl ⟨hpi f hf, rfl⟩, fun f g hf hg hne h1 h2 => absurd (hpi f hf) h1⟩, fun i hi => Or.inl (hpd i hi)⟩
theorem i_vc_store {k : Nat} {u : SX} {v : SY} (I : i_Rel k u v) (hk : k + 4 ≤ 2048) (v1 : Int32) (v2 : Int32) (v3 : Int32) : wpX_store (fun r u' => wpY_store (fun r' v' => r' = r ∧ i_Rel (k + 4) u' v') v v1 v2 v3) u v1 v2 v3 := by
  obtain ⟨r, u', v', h, hX, hY⟩ := ev_store I (B' := 200 * (k + 4)) (by omega) (by omega) v1 v2 v3
  exact hX _ (hY _ ⟨rfl, h⟩)
theorem i_vc_word {k : Nat} {u : SX} {v : SY} (I : i_Rel k u v) (hk : k + 4 ≤ 2048) (v1 : Int32) (v2 : Int32) : wpX_word (fun r => wpY_word (fun r' => r' = r ∧ i_Rel (k + 4) u v) v v1 v2) u v1 v2 := by
  obtain ⟨r, hX, hY⟩ := ev_word I v1 v2
  exact hX _ (hY _ ⟨rfl, i_up I⟩)
theorem i_vc_start {k : Nat} {u : SX} {v : SY} (I : i_Rel k u v) (hk : k + 4 ≤ 2048) (v1 : Int32) (v2 : Int32) : wpX_start (fun r u' => wpY_start (fun r' v' => r' = r ∧ i_Rel (k + 4) u' v') v v1 v2) u v1 v2 := by
  obtain ⟨r, u', v', h, hX, hY⟩ := ev_start I (B' := 200 * (k + 4)) (by omega) (by omega) v1 v2
  exact hX _ (hY _ ⟨rfl, h⟩)
theorem i_vc_stop {k : Nat} {u : SX} {v : SY} (I : i_Rel k u v) (hk : k + 4 ≤ 2048) (v1 : Int32) : wpX_stop (fun r u' => wpY_stop (fun r' v' => r' = r ∧ i_Rel (k + 4) u' v') v v1) u v1 := by
  obtain ⟨r, u', v', h, hX, hY⟩ := ev_stop I (B' := 200 * (k + 4)) (by omega) (by omega) v1
  exact hX _ (hY _ ⟨rfl, h⟩)
theorem i_vc_resume {k : Nat} {u : SX} {v : SY} (I : i_Rel k u v) (hk : k + 4 ≤ 2048) (v1 : Int32) : wpX_resume (fun r u' => wpY_resume (fun r' v' => r' = r ∧ i_Rel (k + 4) u' v') v v1) u v1 := by
  obtain ⟨r, u', v', h, hX, hY⟩ := ev_resume I (B' := 200 * (k + 4)) (by omega) (by omega) v1
  exact hX _ (hY _ ⟨rfl, h⟩)
theorem i_vc_copy {k : Nat} {u : SX} {v : SY} (I : i_Rel k u v) (hk : k + 4 ≤ 2048) (v1 : Int32) (v2 : Int32) : wpX_copy (fun r u' => wpY_copy (fun r' v' => r' = r ∧ i_Rel (k + 4) u' v') v v1 v2) u v1 v2 := by
  obtain ⟨r, u', v', h, hX, hY⟩ := ev_copy I (B' := 200 * (k + 4)) (by omega) (by omega) v1 v2
  exact hX _ (hY _ ⟨rfl, h⟩)
theorem i_vc_keep {k : Nat} {u : SX} {v : SY} (I : i_Rel k u v) (hk : k + 4 ≤ 2048) (v1 : Int32) (v2 : Int32) : wpX_keep (fun r u' => wpY_keep (fun r' v' => r' = r ∧ i_Rel (k + 4) u' v') v v1 v2) u v1 v2 := by
  obtain ⟨r, u', v', h, hX, hY⟩ := ev_keep I (B' := 200 * (k + 4)) (by omega) (by omega) v1 v2
  exact hX _ (hY _ ⟨rfl, h⟩)
theorem i_vc_back {k : Nat} {u : SX} {v : SY} (I : i_Rel k u v) (hk : k + 4 ≤ 2048) (v1 : Int32) (v2 : Int32) : wpX_back (fun r u' => wpY_back (fun r' v' => r' = r ∧ i_Rel (k + 4) u' v') v v1 v2) u v1 v2 := by
  obtain ⟨r, u', v', h, hX, hY⟩ := ev_back I (B' := 200 * (k + 4)) (by omega) (by omega) v1 v2
  exact hX _ (hY _ ⟨rfl, h⟩)
theorem i_vc_post {k : Nat} {u : SX} {v : SY} (I : i_Rel k u v) (hk : k + 4 ≤ 2048) (v1 : Int32) (v2 : Int32) : wpX_post (fun r u' => wpY_post (fun r' v' => r' = r ∧ i_Rel (k + 4) u' v') v v1 v2) u v1 v2 := by
  obtain ⟨r, u', v', h, hX, hY⟩ := ev_post I (B' := 200 * (k + 4)) (by omega) (by omega) v1 v2
  exact hX _ (hY _ ⟨rfl, h⟩)
theorem i_vc_run {k : Nat} {u : SX} {v : SY} (I : i_Rel k u v) (hk : k + 4 ≤ 2048) (v1 : Int32) : wpX_run (fun r u' => wpY_run (fun r' v' => r' = r ∧ i_Rel (k + 4) u' v') v v1) u v1 := by
  obtain ⟨r, u', v', h, hX, hY⟩ := ev_run I (B' := 200 * (k + 4)) (by omega) (by omega) v1
  exact hX _ (hY _ ⟨rfl, h⟩)
theorem i_vc_guest {k : Nat} {u : SX} {v : SY} (I : i_Rel k u v) (hk : k + 4 ≤ 2048) (v1 : Int32) (v2 : Int32) : wpX_guest (fun r => wpY_guest (fun r' => r' = r ∧ i_Rel (k + 4) u v) v v1 v2) u v1 v2 := by
  obtain ⟨r, hX, hY⟩ := ev_guest I v1 v2
  exact hX _ (hY _ ⟨rfl, i_up I⟩)
theorem i_vc_frame {k : Nat} {u : SX} {v : SY} (I : i_Rel k u v) (hk : k + 4 ≤ 2048) (v1 : Int32) (v2 : Int32) : wpX_frame (fun r => wpY_frame (fun r' => r' = r ∧ i_Rel (k + 4) u v) v v1 v2) u v1 v2 := by
  obtain ⟨r, hX, hY⟩ := ev_frame I v1 v2
  exact hX _ (hY _ ⟨rfl, i_up I⟩)
theorem i_vc_leads {k : Nat} {u : SX} {v : SY} (I : i_Rel k u v) (hk : k + 4 ≤ 2048) (v1 : Int32) (v2 : Int32) (v3 : Int32) : wpX_leads (fun r => wpY_leads (fun r' => r' = r ∧ i_Rel (k + 4) u v) v v1 v2 (lw_bz v3)) u v1 v2 (lw_bz v3) := by
  obtain ⟨r, hX, hY⟩ := ev_leads I v1 v2 (lw_bz v3)
  exact hX _ (hY _ ⟨rfl, i_up I⟩)
theorem i_vc_told {k : Nat} {u : SX} {v : SY} (I : i_Rel k u v) (hk : k + 4 ≤ 2048) (v1 : Int32) : wpX_told (fun r => wpY_told (fun r' => r' = r ∧ i_Rel (k + 4) u v) v v1) u v1 := by
  obtain ⟨r, hX, hY⟩ := ev_told I v1
  exact hX _ (hY _ ⟨rfl, i_up I⟩)
theorem i_vc_turn {k : Nat} {u : SX} {v : SY} (I : i_Rel k u v) (hk : k + 4 ≤ 2048) (v1 : Int32) : wpX_turn (fun r => wpY_turn (fun r' => r' = r ∧ i_Rel (k + 4) u v) v (lw_bz v1)) u (lw_bz v1) := by
  obtain ⟨r, hX, hY⟩ := ev_turn I (lw_bz v1)
  exact hX _ (hY _ ⟨rfl, i_up I⟩)
