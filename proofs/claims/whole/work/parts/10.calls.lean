section
variable {us nw : Int64} {tg sl : Int32} {st rg ps tb pd sa kp pg sp it pi : Nat → Int32} {ua yu lt : Nat → Int64}
/-! guards -/
theorem gd_g (x : Int32) : (x < 0 ∨ 3 ≤ x) ∨ ∃ j : Nat, j < 3 ∧ x = nI j := (pk_ix x (n := 3) (by decide)).elim (fun z => Or.inl (Or.inl z)) (fun z => z.elim (fun z => Or.inl (Or.inr z)) Or.inr)
theorem gd_a (x : Int32) : (x < 0 ∨ 64 ≤ x) ∨ ∃ j : Nat, j < 64 ∧ x = nI j := (pk_ix x (n := 64) (by decide)).elim (fun z => Or.inl (Or.inl z)) (fun z => z.elim (fun z => Or.inl (Or.inr z)) Or.inr)
theorem gd_s (x : Int32) : (x < 0 ∨ 2 ≤ x) ∨ ∃ j : Nat, j < 2 ∧ x = nI j := (pk_ix x (n := 2) (by decide)).elim (fun z => Or.inl (Or.inl z)) (fun z => z.elim (fun z => Or.inl (Or.inr z)) Or.inr)
theorem gd_8 (x : Int32) : (x < 0 ∨ 8 ≤ x) ∨ ∃ j : Nat, j < 8 ∧ x = nI j := (pk_ix x (n := 8) (by decide)).elim (fun z => Or.inl (Or.inl z)) (fun z => z.elim (fun z => Or.inl (Or.inr z)) Or.inr)
theorem gd_c (x : Int32) : (x < 0 ∨ 256 ≤ x) ∨ ∃ j : Nat, j < 256 ∧ x = nI j := (pk_ix x (n := 256) (by decide)).elim (fun z => Or.inl (Or.inl z)) (fun z => z.elim (fun z => Or.inl (Or.inr z)) Or.inr)
theorem gd_n (x : Int32) : (x < 0 ∨ 101 ≤ x) ∨ ∃ j : Nat, j < 101 ∧ x = nI j := (pk_ix x (n := 101) (by decide)).elim (fun z => Or.inl (Or.inl z)) (fun z => z.elim (fun z => Or.inl (Or.inr z)) Or.inr)
theorem gd_11 (x : Int32) : (x < 0 ∨ 11 ≤ x) ∨ ∃ j : Nat, j < 11 ∧ x = nI j := (pk_ix x (n := 11) (by decide)).elim (fun z => Or.inl (Or.inl z)) (fun z => z.elim (fun z => Or.inl (Or.inr z)) Or.inr)
theorem gd_Y0 {x N : Int32} {post : Int32 → Prop} (h : x < 0 ∨ N ≤ x) (hp : post 1) : wpY_out post x N := by
  by_cases h0 : x < 0
  · exact br_t h0 hp
  · exact br_f h0 (br_f (Int32.not_lt.mpr (h.resolve_left h0)) hp)
theorem gd_Y1 {j N : Nat} {post : Int32 → Prop} (h : j < N) (hN : N < 2 ^ 31) (hp : post 0) : wpY_out post (nI j) (nI N) :=
  br_f (nI_pos (by omega)) (br_t (nI_lt h hN) hp)
theorem gd_Guest0 {x : Int32} {post : Int32 → Prop} (h : x < 0 ∨ 3 ≤ x) (hp : post 0) : wpX_isGuest post x := by
  by_cases h0 : x < 0
  · exact br_t h0 hp
  · exact br_f h0 (br_t (h.resolve_left h0) hp)
theorem gd_Guest1 {j : Nat} {post : Int32 → Prop} (h : j < 3) (hp : post 1) : wpX_isGuest post (nI j) :=
  br_f (nI_pos (by omega)) (br_f (nI_ge (b := 3) h (by omega)) hp)
theorem gd_Address0 {x : Int32} {post : Int32 → Prop} (h : x < 0 ∨ 64 ≤ x) (hp : post 0) : wpX_isAddress post x := by
  by_cases h0 : x < 0
  · exact br_t h0 hp
  · exact br_f h0 (br_t (h.resolve_left h0) hp)
theorem gd_Address1 {j : Nat} {post : Int32 → Prop} (h : j < 64) (hp : post 1) : wpX_isAddress post (nI j) :=
  br_f (nI_pos (by omega)) (br_f (nI_ge (b := 64) h (by omega)) hp)
theorem gd_Slot0 {x : Int32} {post : Int32 → Prop} (h : x < 0 ∨ 2 ≤ x) (hp : post 0) : wpX_isSlot post x := by
  by_cases h0 : x < 0
  · exact br_t h0 hp
  · exact br_f h0 (br_t (h.resolve_left h0) hp)
theorem gd_Slot1 {j : Nat} {post : Int32 → Prop} (h : j < 2) (hp : post 1) : wpX_isSlot post (nI j) :=
  br_f (nI_pos (by omega)) (br_f (nI_ge (b := 2) h (by omega)) hp)
end
def i_Rel (k : Nat) (u : SX) (v : SY) : Prop := rl_R (200 * k) u v
theorem ev_store {B B' : Nat} {u : SX} {v : SY} (I : rl_R B u v) (hB : B + 600 ≤ B') (hB2 : B' < 2 ^ 29) (v1 v2 v3 : Int32) :
    ∃ (r : Int32) (u' : SX) (v' : SY), rl_R B' u' v' ∧ (∀ post : Int32 → SX → Prop, post r u' → wpX_store post u v1 v2 v3) ∧ (∀ post : Int32 → SY → Prop, post r v' → wpY_store post v v1 v2 v3) := by
  obtain ⟨us, nw, t, s, st, rg, ps, tb, pd, sa, kp, pg, sp, it, pi, ua, yu, lt, rfl, rfl, ht, hs, hR, hP⟩ := I
  rcases gd_g v1 with h | ⟨g, hg, rfl⟩
  · refine ⟨0, (us, nI t, nI s, st, rg, ps, tb, pd, sa, kp, pg, sp, it, pi, ua, lt), (nw, nI t, nI s, st, rg, ps, tb, pd, sa, kp, pg, sp, it, pi, yu, lt), ⟨us, nw, t, s, st, rg, ps, tb, pd, sa, kp, pg, sp, it, pi, ua, yu, lt, rfl, rfl, ht, hs, fr_mono hR (by omega), hP⟩, ?_, ?_⟩
    · intro post hp
      unfold wpX_store
      exact gd_Guest0 h (br_t rfl hp)
    · intro post hp
      unfold wpY_store
      exact gd_Y0 h (br_f (by decide) hp)
  · rcases gd_a v2 with h | ⟨a, ha, rfl⟩
    · refine ⟨0, (us, nI t, nI s, st, rg, ps, tb, pd, sa, kp, pg, sp, it, pi, ua, lt), (nw, nI t, nI s, st, rg, ps, tb, pd, sa, kp, pg, sp, it, pi, yu, lt), ⟨us, nw, t, s, st, rg, ps, tb, pd, sa, kp, pg, sp, it, pi, ua, yu, lt, rfl, rfl, ht, hs, fr_mono hR (by omega), hP⟩, ?_, ?_⟩
      · intro post hp
        unfold wpX_store
        exact gd_Guest1 hg (br_f (by decide) (gd_Address0 h (br_t rfl hp)))
      · intro post hp
        unfold wpY_store
        exact gd_Y1 (N := 3) hg (by decide) (br_t rfl (gd_Y0 h (br_f (by decide) hp)))
    · have e1 : nI g * 64 + nI a = nI (64 * g + a) := ix_64 g a
      have e2 : 64 * nI g + nI a = nI (64 * g + a) := iy_64 g a
      have v : vp_in (nI (64 * g + a)) 320 := vp_in_nI (by omega) (by omega)
      have c : (nI (64 * g + a)).toNatClampNeg = 64 * g + a := nI_clamp (by omega)
      refine ⟨1, (us, nI t, nI s, upd st (64 * g + a) v3, rg, ps, tb, pd, sa, kp, pg, sp, it, pi, ua, lt), (nw, nI t, nI s, upd st (64 * g + a) v3, rg, ps, tb, pd, sa, kp, pg, sp, it, pi, yu, lt), ⟨us, nw, t, s, upd st (64 * g + a) v3, rg, ps, tb, pd, sa, kp, pg, sp, it, pi, ua, yu, lt, rfl, rfl, ht, hs, fr_mono hR (by omega), hP⟩, ?_, ?_⟩
      · intro post hp
        unfold wpX_store
        exact gd_Guest1 hg (br_f (by decide) (gd_Address1 ha (br_f (by decide) ⟨by rw [e1]; exact v, nm_r (by rw [e1, c]) hp⟩)))
      · intro post hp
        unfold wpY_store
        exact gd_Y1 (N := 3) hg (by decide) (br_t rfl (gd_Y1 (N := 64) ha (by decide) (br_t rfl ⟨by rw [e2]; exact v, nm_r (by rw [e2, c]) hp⟩)))
theorem ev_start {B B' : Nat} {u : SX} {v : SY} (I : rl_R B u v) (hB : B + 600 ≤ B') (hB2 : B' < 2 ^ 29) (v1 v2 : Int32) :
    ∃ (r : Int32) (u' : SX) (v' : SY), rl_R B' u' v' ∧ (∀ post : Int32 → SX → Prop, post r u' → wpX_start post u v1 v2) ∧ (∀ post : Int32 → SY → Prop, post r v' → wpY_start post v v1 v2) := by
  obtain ⟨us, nw, t, s, st, rg, ps, tb, pd, sa, kp, pg, sp, it, pi, ua, yu, lt, rfl, rfl, ht, hs, hR, hP⟩ := I
  rcases gd_g v1 with h | ⟨g, hg, rfl⟩
  · refine ⟨0, (us, nI t, nI s, st, rg, ps, tb, pd, sa, kp, pg, sp, it, pi, ua, lt), (nw, nI t, nI s, st, rg, ps, tb, pd, sa, kp, pg, sp, it, pi, yu, lt), ⟨us, nw, t, s, st, rg, ps, tb, pd, sa, kp, pg, sp, it, pi, ua, yu, lt, rfl, rfl, ht, hs, fr_mono hR (by omega), hP⟩, ?_, ?_⟩
    · intro post hp
      unfold wpX_start
      exact gd_Guest0 h (br_t rfl hp)
    · intro post hp
      unfold wpY_start
      exact gd_Y0 h (br_f (by decide) hp)
  · obtain ⟨rg', lX, lY⟩ := sa_loop hg 4 0 rg (by omega)
    have eg : (nI g).toNatClampNeg = g := nI_clamp (by omega)
    have vg : vp_in (nI g) 5 := vp_in_nI (by omega) (by omega)
    refine ⟨1, (us, nI t, nI s, st, rg', upd ps g (v2 &&& 511), upd tb g 0, upd pd g (-1), upd sa g 1, kp, upd pg g 0, upd sp g 0, upd it g 0, pi, ua, lt), (nw, nI t, nI s, st, rg', upd ps g (v2 &&& 511), upd tb g 0, upd pd g (-1), upd sa g 1, kp, upd pg g 0, upd sp g 0, upd it g 0, pi, yu, lt), ⟨us, nw, t, s, st, rg', upd ps g (v2 &&& 511), upd tb g 0, upd pd g (-1), upd sa g 1, kp, upd pg g 0, upd sp g 0, upd it g 0, pi, ua, yu, lt, rfl, rfl, ht, hs, fr_mono hR (by omega), sm_PDu hP⟩, ?_, ?_⟩
    · intro post hp
      unfold wpX_start
      exact gd_Guest1 hg (br_f (by decide) (⟨vg, nm_r (by rw [eg]) ⟨5, lX hp⟩⟩))
    · intro post hp
      unfold wpY_start
      exact gd_Y1 (N := 3) hg (by decide) (br_t rfl (⟨vg, nm_r (by rw [eg]) ⟨5, lY hp⟩⟩))
theorem ev_stop {B B' : Nat} {u : SX} {v : SY} (I : rl_R B u v) (hB : B + 600 ≤ B') (hB2 : B' < 2 ^ 29) (v1 : Int32) :
    ∃ (r : Int32) (u' : SX) (v' : SY), rl_R B' u' v' ∧ (∀ post : Int32 → SX → Prop, post r u' → wpX_stop post u v1) ∧ (∀ post : Int32 → SY → Prop, post r v' → wpY_stop post v v1) := by
  obtain ⟨us, nw, t, s, st, rg, ps, tb, pd, sa, kp, pg, sp, it, pi, ua, yu, lt, rfl, rfl, ht, hs, hR, hP⟩ := I
  rcases gd_g v1 with h | ⟨g, hg, rfl⟩
  · refine ⟨0, (us, nI t, nI s, st, rg, ps, tb, pd, sa, kp, pg, sp, it, pi, ua, lt), (nw, nI t, nI s, st, rg, ps, tb, pd, sa, kp, pg, sp, it, pi, yu, lt), ⟨us, nw, t, s, st, rg, ps, tb, pd, sa, kp, pg, sp, it, pi, ua, yu, lt, rfl, rfl, ht, hs, fr_mono hR (by omega), hP⟩, ?_, ?_⟩
    · intro post hp
      unfold wpX_stop
      exact gd_Guest0 h (br_t rfl hp)
    · intro post hp
      unfold wpY_stop
      exact gd_Y0 h (br_f (by decide) hp)
  · have eg : (nI g).toNatClampNeg = g := nI_clamp (by omega)
    have vg : vp_in (nI g) 5 := vp_in_nI (by omega) (by omega)
    by_cases h0 : sa g = 0
    · refine ⟨0, (us, nI t, nI s, st, rg, ps, tb, pd, sa, kp, pg, sp, it, pi, ua, lt), (nw, nI t, nI s, st, rg, ps, tb, pd, sa, kp, pg, sp, it, pi, yu, lt), ⟨us, nw, t, s, st, rg, ps, tb, pd, sa, kp, pg, sp, it, pi, ua, yu, lt, rfl, rfl, ht, hs, fr_mono hR (by omega), hP⟩, ?_, ?_⟩
      · intro post hp
        unfold wpX_stop
        exact gd_Guest1 hg (br_f (by decide) (⟨vg, br_t (by rw [eg]; exact h0) hp⟩))
      · intro post hp
        unfold wpY_stop
        exact gd_Y1 (N := 3) hg (by decide) (br_t rfl (⟨vg, br_t (by rw [eg]; exact h0) hp⟩))
    · refine ⟨1, (us, nI t, nI s, st, rg, ps, tb, pd, upd sa g 0, kp, pg, sp, it, pi, ua, lt), (nw, nI t, nI s, st, rg, ps, tb, pd, upd sa g 0, kp, pg, sp, it, pi, yu, lt), ⟨us, nw, t, s, st, rg, ps, tb, pd, upd sa g 0, kp, pg, sp, it, pi, ua, yu, lt, rfl, rfl, ht, hs, fr_mono hR (by omega), hP⟩, ?_, ?_⟩
      · intro post hp
        unfold wpX_stop
        exact gd_Guest1 hg (br_f (by decide) (⟨vg, br_f (by rw [eg]; exact h0) ⟨vg, nm_r (by rw [eg]) hp⟩⟩))
      · intro post hp
        unfold wpY_stop
        exact gd_Y1 (N := 3) hg (by decide) (br_t rfl (⟨vg, br_f (by rw [eg]; exact h0) ⟨vg, nm_r (by rw [eg]) hp⟩⟩))
theorem ev_resume {B B' : Nat} {u : SX} {v : SY} (I : rl_R B u v) (hB : B + 600 ≤ B') (hB2 : B' < 2 ^ 29) (v1 : Int32) :
    ∃ (r : Int32) (u' : SX) (v' : SY), rl_R B' u' v' ∧ (∀ post : Int32 → SX → Prop, post r u' → wpX_resume post u v1) ∧ (∀ post : Int32 → SY → Prop, post r v' → wpY_resume post v v1) := by
  obtain ⟨us, nw, t, s, st, rg, ps, tb, pd, sa, kp, pg, sp, it, pi, ua, yu, lt, rfl, rfl, ht, hs, hR, hP⟩ := I
  rcases gd_g v1 with h | ⟨g, hg, rfl⟩
  · refine ⟨0, (us, nI t, nI s, st, rg, ps, tb, pd, sa, kp, pg, sp, it, pi, ua, lt), (nw, nI t, nI s, st, rg, ps, tb, pd, sa, kp, pg, sp, it, pi, yu, lt), ⟨us, nw, t, s, st, rg, ps, tb, pd, sa, kp, pg, sp, it, pi, ua, yu, lt, rfl, rfl, ht, hs, fr_mono hR (by omega), hP⟩, ?_, ?_⟩
    · intro post hp
      unfold wpX_resume
      exact gd_Guest0 h (br_t rfl hp)
    · intro post hp
      unfold wpY_resume
      exact gd_Y0 h (br_f (by decide) hp)
  · have eg : (nI g).toNatClampNeg = g := nI_clamp (by omega)
    have vg : vp_in (nI g) 5 := vp_in_nI (by omega) (by omega)
    by_cases h0 : sa g = 0
    · refine ⟨1, (us, nI t, nI s, st, rg, ps, tb, pd, upd sa g 1, kp, pg, sp, it, pi, ua, lt), (nw, nI t, nI s, st, rg, ps, tb, pd, upd sa g 1, kp, pg, sp, it, pi, yu, lt), ⟨us, nw, t, s, st, rg, ps, tb, pd, upd sa g 1, kp, pg, sp, it, pi, ua, yu, lt, rfl, rfl, ht, hs, fr_mono hR (by omega), hP⟩, ?_, ?_⟩
      · intro post hp
        unfold wpX_resume
        exact gd_Guest1 hg (br_f (by decide) (⟨vg, br_t (by rw [eg]; exact h0) ⟨vg, nm_r (by rw [eg]) hp⟩⟩))
      · intro post hp
        unfold wpY_resume
        exact gd_Y1 (N := 3) hg (by decide) (br_t rfl (⟨vg, br_t (by rw [eg]; exact h0) ⟨vg, nm_r (by rw [eg]) hp⟩⟩))
    · refine ⟨0, (us, nI t, nI s, st, rg, ps, tb, pd, sa, kp, pg, sp, it, pi, ua, lt), (nw, nI t, nI s, st, rg, ps, tb, pd, sa, kp, pg, sp, it, pi, yu, lt), ⟨us, nw, t, s, st, rg, ps, tb, pd, sa, kp, pg, sp, it, pi, ua, yu, lt, rfl, rfl, ht, hs, fr_mono hR (by omega), hP⟩, ?_, ?_⟩
      · intro post hp
        unfold wpX_resume
        exact gd_Guest1 hg (br_f (by decide) (⟨vg, br_f (by rw [eg]; exact h0) hp⟩))
      · intro post hp
        unfold wpY_resume
        exact gd_Y1 (N := 3) hg (by decide) (br_t rfl (⟨vg, br_f (by rw [eg]; exact h0) hp⟩))
theorem ev_copy {B B' : Nat} {u : SX} {v : SY} (I : rl_R B u v) (hB : B + 600 ≤ B') (hB2 : B' < 2 ^ 29) (v1 v2 : Int32) :
    ∃ (r : Int32) (u' : SX) (v' : SY), rl_R B' u' v' ∧ (∀ post : Int32 → SX → Prop, post r u' → wpX_copy post u v1 v2) ∧ (∀ post : Int32 → SY → Prop, post r v' → wpY_copy post v v1 v2) := by
  obtain ⟨us, nw, t, s, st, rg, ps, tb, pd, sa, kp, pg, sp, it, pi, ua, yu, lt, rfl, rfl, ht, hs, hR, hP⟩ := I
  rcases gd_g v1 with h | ⟨g, hg, rfl⟩
  · refine ⟨0, (us, nI t, nI s, st, rg, ps, tb, pd, sa, kp, pg, sp, it, pi, ua, lt), (nw, nI t, nI s, st, rg, ps, tb, pd, sa, kp, pg, sp, it, pi, yu, lt), ⟨us, nw, t, s, st, rg, ps, tb, pd, sa, kp, pg, sp, it, pi, ua, yu, lt, rfl, rfl, ht, hs, fr_mono hR (by omega), hP⟩, ?_, ?_⟩
    · intro post hp
      unfold wpX_copy
      exact gd_Guest0 h (br_t rfl hp)
    · intro post hp
      unfold wpY_copy
      exact gd_Y0 h (br_f (by decide) hp)
  · rcases gd_g v2 with h | ⟨a, ha, rfl⟩
    · refine ⟨0, (us, nI t, nI s, st, rg, ps, tb, pd, sa, kp, pg, sp, it, pi, ua, lt), (nw, nI t, nI s, st, rg, ps, tb, pd, sa, kp, pg, sp, it, pi, yu, lt), ⟨us, nw, t, s, st, rg, ps, tb, pd, sa, kp, pg, sp, it, pi, ua, yu, lt, rfl, rfl, ht, hs, fr_mono hR (by omega), hP⟩, ?_, ?_⟩
      · intro post hp
        unfold wpX_copy
        exact gd_Guest1 hg (br_f (by decide) (gd_Guest0 h (br_t rfl hp)))
      · intro post hp
        unfold wpY_copy
        exact gd_Y1 (N := 3) hg (by decide) (br_t rfl (gd_Y0 h (br_f (by decide) hp)))
    · by_cases he : nI g = nI a
      · refine ⟨0, (us, nI t, nI s, st, rg, ps, tb, pd, sa, kp, pg, sp, it, pi, ua, lt), (nw, nI t, nI s, st, rg, ps, tb, pd, sa, kp, pg, sp, it, pi, yu, lt), ⟨us, nw, t, s, st, rg, ps, tb, pd, sa, kp, pg, sp, it, pi, ua, yu, lt, rfl, rfl, ht, hs, fr_mono hR (by omega), hP⟩, ?_, ?_⟩
        · intro post hp
          unfold wpX_copy
          exact gd_Guest1 hg (br_f (by decide) (gd_Guest1 ha (br_f (by decide) (br_t he hp))))
        · intro post hp
          unfold wpY_copy
          exact gd_Y1 (N := 3) hg (by decide) (br_t rfl (gd_Y1 (N := 3) ha (by decide) (br_t rfl (br_t he hp))))
      · obtain ⟨st', rg', cX, cY⟩ := cp_both (f := g) (t := a) (by omega) (by omega) st rg
        obtain ⟨pi', ua', hR', fX, fY⟩ := ff_both (g := a) hR
        refine ⟨1, (us, nI t, nI s, st', rg', upd ps a (ps g), upd tb a (tb g), upd pd a (pd g), upd sa a (sa g), kp, upd pg a 0, upd sp a 0, upd it a 0, pi', ua', lt), (nw, nI t, nI s, st', rg', upd ps a (ps g), upd tb a (tb g), upd pd a (pd g), upd sa a (sa g), kp, upd pg a 0, upd sp a 0, upd it a 0, pi', yu, lt), ⟨us, nw, t, s, st', rg', upd ps a (ps g), upd tb a (tb g), upd pd a (pd g), upd sa a (sa g), kp, upd pg a 0, upd sp a 0, upd it a 0, pi', ua', yu, lt, rfl, rfl, ht, hs, fr_mono hR' (by omega), cp_PD (by omega) hP⟩, ?_, ?_⟩
        · intro post hp
          unfold wpX_copy
          exact gd_Guest1 hg (br_f (by decide) (gd_Guest1 ha (br_f (by decide) (br_f he (cX (cl_X ha (fX hp)))))))
        · intro post hp
          unfold wpY_copy
          exact gd_Y1 (N := 3) hg (by decide) (br_t rfl (gd_Y1 (N := 3) ha (by decide) (br_t rfl (br_f he (cY (cl_Y ha (fY hp)))))))
theorem ev_keep {B B' : Nat} {u : SX} {v : SY} (I : rl_R B u v) (hB : B + 600 ≤ B') (hB2 : B' < 2 ^ 29) (v1 v2 : Int32) :
    ∃ (r : Int32) (u' : SX) (v' : SY), rl_R B' u' v' ∧ (∀ post : Int32 → SX → Prop, post r u' → wpX_keep post u v1 v2) ∧ (∀ post : Int32 → SY → Prop, post r v' → wpY_keep post v v1 v2) := by
  obtain ⟨us, nw, t, s, st, rg, ps, tb, pd, sa, kp, pg, sp, it, pi, ua, yu, lt, rfl, rfl, ht, hs, hR, hP⟩ := I
  rcases gd_g v1 with h | ⟨g, hg, rfl⟩
  · refine ⟨0, (us, nI t, nI s, st, rg, ps, tb, pd, sa, kp, pg, sp, it, pi, ua, lt), (nw, nI t, nI s, st, rg, ps, tb, pd, sa, kp, pg, sp, it, pi, yu, lt), ⟨us, nw, t, s, st, rg, ps, tb, pd, sa, kp, pg, sp, it, pi, ua, yu, lt, rfl, rfl, ht, hs, fr_mono hR (by omega), hP⟩, ?_, ?_⟩
    · intro post hp
      unfold wpX_keep
      exact gd_Guest0 h (br_t rfl hp)
    · intro post hp
      unfold wpY_keep
      exact gd_Y0 h (br_f (by decide) hp)
  · rcases gd_s v2 with h | ⟨a, ha, rfl⟩
    · refine ⟨0, (us, nI t, nI s, st, rg, ps, tb, pd, sa, kp, pg, sp, it, pi, ua, lt), (nw, nI t, nI s, st, rg, ps, tb, pd, sa, kp, pg, sp, it, pi, yu, lt), ⟨us, nw, t, s, st, rg, ps, tb, pd, sa, kp, pg, sp, it, pi, ua, yu, lt, rfl, rfl, ht, hs, fr_mono hR (by omega), hP⟩, ?_, ?_⟩
      · intro post hp
        unfold wpX_keep
        exact gd_Guest1 hg (br_f (by decide) (gd_Slot0 h (br_t rfl hp)))
      · intro post hp
        unfold wpY_keep
        exact gd_Y1 (N := 3) hg (by decide) (br_t rfl (gd_Y0 h (br_f (by decide) hp)))
    · have e3 : 3 + nI a = nI (3 + a) := nI_add 3 a
      have ea : (nI a).toNatClampNeg = a := nI_clamp (by omega)
      have va : vp_in (nI a) 2 := vp_in_nI (by omega) (by omega)
      obtain ⟨st', rg', cX, cY⟩ := cp_both (f := g) (t := 3 + a) (by omega) (by omega) st rg
      rw [← e3] at cX cY
      refine ⟨1, (us, nI t, nI s, st', rg', upd ps (3 + a) (ps g), upd tb (3 + a) (tb g), upd pd (3 + a) (pd g), upd sa (3 + a) (sa g), upd kp a (vp_nar .boolean 1), pg, sp, it, pi, ua, lt), (nw, nI t, nI s, st', rg', upd ps (3 + a) (ps g), upd tb (3 + a) (tb g), upd pd (3 + a) (pd g), upd sa (3 + a) (sa g), upd kp a (vp_nar .boolean 1), pg, sp, it, pi, yu, lt), ⟨us, nw, t, s, st', rg', upd ps (3 + a) (ps g), upd tb (3 + a) (tb g), upd pd (3 + a) (pd g), upd sa (3 + a) (sa g), upd kp a (vp_nar .boolean 1), pg, sp, it, pi, ua, yu, lt, rfl, rfl, ht, hs, fr_mono hR (by omega), cp_PD (by omega) hP⟩, ?_, ?_⟩
      · intro post hp
        unfold wpX_keep
        exact gd_Guest1 hg (br_f (by decide) (gd_Slot1 ha (br_f (by decide) (cX ⟨va, nm_r (by rw [ea]) hp⟩))))
      · intro post hp
        unfold wpY_keep
        exact gd_Y1 (N := 3) hg (by decide) (br_t rfl (gd_Y1 (N := 2) ha (by decide) (br_t rfl (cY ⟨va, nm_r (by rw [ea]) hp⟩))))
theorem ev_back {B B' : Nat} {u : SX} {v : SY} (I : rl_R B u v) (hB : B + 600 ≤ B') (hB2 : B' < 2 ^ 29) (v1 v2 : Int32) :
    ∃ (r : Int32) (u' : SX) (v' : SY), rl_R B' u' v' ∧ (∀ post : Int32 → SX → Prop, post r u' → wpX_back post u v1 v2) ∧ (∀ post : Int32 → SY → Prop, post r v' → wpY_back post v v1 v2) := by
  obtain ⟨us, nw, t, s, st, rg, ps, tb, pd, sa, kp, pg, sp, it, pi, ua, yu, lt, rfl, rfl, ht, hs, hR, hP⟩ := I
  rcases gd_g v1 with h | ⟨g, hg, rfl⟩
  · refine ⟨0, (us, nI t, nI s, st, rg, ps, tb, pd, sa, kp, pg, sp, it, pi, ua, lt), (nw, nI t, nI s, st, rg, ps, tb, pd, sa, kp, pg, sp, it, pi, yu, lt), ⟨us, nw, t, s, st, rg, ps, tb, pd, sa, kp, pg, sp, it, pi, ua, yu, lt, rfl, rfl, ht, hs, fr_mono hR (by omega), hP⟩, ?_, ?_⟩
    · intro post hp
      unfold wpX_back
      exact gd_Guest0 h (br_t rfl hp)
    · intro post hp
      unfold wpY_back
      exact gd_Y0 h (br_f (by decide) hp)
  · rcases gd_s v2 with h | ⟨a, ha, rfl⟩
    · refine ⟨0, (us, nI t, nI s, st, rg, ps, tb, pd, sa, kp, pg, sp, it, pi, ua, lt), (nw, nI t, nI s, st, rg, ps, tb, pd, sa, kp, pg, sp, it, pi, yu, lt), ⟨us, nw, t, s, st, rg, ps, tb, pd, sa, kp, pg, sp, it, pi, ua, yu, lt, rfl, rfl, ht, hs, fr_mono hR (by omega), hP⟩, ?_, ?_⟩
      · intro post hp
        unfold wpX_back
        exact gd_Guest1 hg (br_f (by decide) (gd_Slot0 h (br_t rfl hp)))
      · intro post hp
        unfold wpY_back
        exact gd_Y1 (N := 3) hg (by decide) (br_t rfl (gd_Y0 h (br_f (by decide) hp)))
    · have e3 : 3 + nI a = nI (3 + a) := nI_add 3 a
      have ea : (nI a).toNatClampNeg = a := nI_clamp (by omega)
      have va : vp_in (nI a) 2 := vp_in_nI (by omega) (by omega)
      by_cases hk : kp a = 0
      · refine ⟨0, (us, nI t, nI s, st, rg, ps, tb, pd, sa, kp, pg, sp, it, pi, ua, lt), (nw, nI t, nI s, st, rg, ps, tb, pd, sa, kp, pg, sp, it, pi, yu, lt), ⟨us, nw, t, s, st, rg, ps, tb, pd, sa, kp, pg, sp, it, pi, ua, yu, lt, rfl, rfl, ht, hs, fr_mono hR (by omega), hP⟩, ?_, ?_⟩
        · intro post hp
          unfold wpX_back
          exact gd_Guest1 hg (br_f (by decide) (gd_Slot1 ha (br_f (by decide) ⟨va, br_t (by rw [ea]; exact hk) hp⟩)))
        · intro post hp
          unfold wpY_back
          exact gd_Y1 (N := 3) hg (by decide) (br_t rfl (gd_Y1 (N := 2) ha (by decide) (br_t rfl ⟨va, br_t (by rw [ea]; exact hk) hp⟩)))
      · obtain ⟨st', rg', cX, cY⟩ := cp_both (f := 3 + a) (t := g) (by omega) (by omega) st rg
        obtain ⟨pi', ua', hR', fX, fY⟩ := ff_both (g := g) hR
        rw [← e3] at cX cY
        refine ⟨1, (us, nI t, nI s, st', rg', upd ps g (ps (3 + a)), upd tb g (tb (3 + a)), upd pd g (pd (3 + a)), upd sa g (sa (3 + a)), kp, pg, sp, it, pi', ua', lt), (nw, nI t, nI s, st', rg', upd ps g (ps (3 + a)), upd tb g (tb (3 + a)), upd pd g (pd (3 + a)), upd sa g (sa (3 + a)), kp, pg, sp, it, pi', yu, lt), ⟨us, nw, t, s, st', rg', upd ps g (ps (3 + a)), upd tb g (tb (3 + a)), upd pd g (pd (3 + a)), upd sa g (sa (3 + a)), kp, pg, sp, it, pi', ua', yu, lt, rfl, rfl, ht, hs, fr_mono hR' (by omega), cp_PD (by omega) hP⟩, ?_, ?_⟩
        · intro post hp
          unfold wpX_back
          exact gd_Guest1 hg (br_f (by decide) (gd_Slot1 ha (br_f (by decide) ⟨va, br_f (by rw [ea]; exact hk) (cX (fX hp))⟩)))
        · intro post hp
          unfold wpY_back
          exact gd_Y1 (N := 3) hg (by decide) (br_t rfl (gd_Y1 (N := 2) ha (by decide) (br_t rfl ⟨va, br_f (by rw [ea]; exact hk) (cY (fY hp))⟩)))
theorem ev_post {B B' : Nat} {u : SX} {v : SY} (I : rl_R B u v) (hB : B + 600 ≤ B') (hB2 : B' < 2 ^ 29) (v1 v2 : Int32) :
    ∃ (r : Int32) (u' : SX) (v' : SY), rl_R B' u' v' ∧ (∀ post : Int32 → SX → Prop, post r u' → wpX_post post u v1 v2) ∧ (∀ post : Int32 → SY → Prop, post r v' → wpY_post post v v1 v2) := by
  obtain ⟨us, nw, t, s, st, rg, ps, tb, pd, sa, kp, pg, sp, it, pi, ua, yu, lt, rfl, rfl, ht, hs, hR, hP⟩ := I
  rcases gd_g v1 with h | ⟨g, hg, rfl⟩
  · refine ⟨0, (us, nI t, nI s, st, rg, ps, tb, pd, sa, kp, pg, sp, it, pi, ua, lt), (nw, nI t, nI s, st, rg, ps, tb, pd, sa, kp, pg, sp, it, pi, yu, lt), ⟨us, nw, t, s, st, rg, ps, tb, pd, sa, kp, pg, sp, it, pi, ua, yu, lt, rfl, rfl, ht, hs, fr_mono hR (by omega), hP⟩, ?_, ?_⟩
    · intro post hp
      unfold wpX_post
      exact gd_Guest0 h (br_t rfl hp)
    · intro post hp
      unfold wpY_post
      exact gd_Y0 h (br_f (by decide) hp)
  · have eg : (nI g).toNatClampNeg = g := nI_clamp (by omega)
    have vg : vp_in (nI g) 5 := vp_in_nI (by omega) (by omega)
    rcases gd_c v2 with h | ⟨a, ha, rfl⟩
    · by_cases h0 : v2 < 0
      · refine ⟨0, (us, nI t, nI s, st, rg, ps, tb, pd, sa, kp, pg, sp, it, pi, ua, lt), (nw, nI t, nI s, st, rg, ps, tb, pd, sa, kp, pg, sp, it, pi, yu, lt), ⟨us, nw, t, s, st, rg, ps, tb, pd, sa, kp, pg, sp, it, pi, ua, yu, lt, rfl, rfl, ht, hs, fr_mono hR (by omega), hP⟩, ?_, ?_⟩
        · intro post hp
          unfold wpX_post
          exact gd_Guest1 hg (br_f (by decide) (br_t h0 hp))
        · intro post hp
          unfold wpY_post
          exact gd_Y1 (N := 3) hg (by decide) (br_t rfl (gd_Y0 h (br_f (by decide) hp)))
      · have hn : ¬ v2 ≤ 255 := fun z => absurd (Int32.le_trans (h.resolve_left h0) z) (by decide)
        refine ⟨0, (us, nI t, nI s, st, rg, ps, tb, pd, sa, kp, pg, sp, it, pi, ua, lt), (nw, nI t, nI s, st, rg, ps, tb, pd, sa, kp, pg, sp, it, pi, yu, lt), ⟨us, nw, t, s, st, rg, ps, tb, pd, sa, kp, pg, sp, it, pi, ua, yu, lt, rfl, rfl, ht, hs, fr_mono hR (by omega), hP⟩, ?_, ?_⟩
        · intro post hp
          unfold wpX_post
          exact gd_Guest1 hg (br_f (by decide) (br_f h0 (br_f hn hp)))
        · intro post hp
          unfold wpY_post
          exact gd_Y1 (N := 3) hg (by decide) (br_t rfl (gd_Y0 h (br_f (by decide) hp)))
    · have hPp : sm_PD (upd pd g (nI a)) := by
        intro i hi
        by_cases e : i = g
        · rw [e, pk_us]; exact Or.inr (nI_pos' (by omega))
        · rw [pk_un e]; exact hP i hi
      refine ⟨1, (us, nI t, nI s, st, rg, ps, tb, upd pd g (nI a), sa, kp, pg, sp, it, pi, ua, lt), (nw, nI t, nI s, st, rg, ps, tb, upd pd g (nI a), sa, kp, pg, sp, it, pi, yu, lt), ⟨us, nw, t, s, st, rg, ps, tb, upd pd g (nI a), sa, kp, pg, sp, it, pi, ua, yu, lt, rfl, rfl, ht, hs, fr_mono hR (by omega), hPp⟩, ?_, ?_⟩
      · intro post hp
        unfold wpX_post
        exact gd_Guest1 hg (br_f (by decide) (br_f (nI_pos (by omega)) (br_t (nI_le (b := 255) (by omega) (by omega)) ⟨vg, nm_r (by rw [eg]) hp⟩)))
      · intro post hp
        unfold wpY_post
        exact gd_Y1 (N := 3) hg (by decide) (br_t rfl (gd_Y1 (N := 256) ha (by decide) (br_t rfl ⟨vg, nm_r (by rw [eg]) hp⟩)))
theorem ev_run {B B' : Nat} {u : SX} {v : SY} (I : rl_R B u v) (hB : B + 600 ≤ B') (hB2 : B' < 2 ^ 29) (v1 : Int32) :
    ∃ (r : Int32) (u' : SX) (v' : SY), rl_R B' u' v' ∧ (∀ post : Int32 → SX → Prop, post r u' → wpX_run post u v1) ∧ (∀ post : Int32 → SY → Prop, post r v' → wpY_run post v v1) := by
  obtain ⟨us, nw, t, s, st, rg, ps, tb, pd, sa, kp, pg, sp, it, pi, ua, yu, lt, rfl, rfl, ht, hs, hR, hP⟩ := I
  rcases gd_n v1 with h | ⟨n, hn, rfl⟩
  · by_cases h0 : v1 < 0
    · refine ⟨-1, (us, nI t, nI s, st, rg, ps, tb, pd, sa, kp, pg, sp, it, pi, ua, lt), (nw, nI t, nI s, st, rg, ps, tb, pd, sa, kp, pg, sp, it, pi, yu, lt), ⟨us, nw, t, s, st, rg, ps, tb, pd, sa, kp, pg, sp, it, pi, ua, yu, lt, rfl, rfl, ht, hs, fr_mono hR (by omega), hP⟩, ?_, ?_⟩
      · intro post hp
        unfold wpX_run
        exact br_t h0 hp
      · intro post hp
        unfold wpY_run
        exact gd_Y0 h (br_f (by decide) hp)
    · have hn : ¬ v1 ≤ 100 := fun z => absurd (Int32.le_trans (h.resolve_left h0) z) (by decide)
      refine ⟨-1, (us, nI t, nI s, st, rg, ps, tb, pd, sa, kp, pg, sp, it, pi, ua, lt), (nw, nI t, nI s, st, rg, ps, tb, pd, sa, kp, pg, sp, it, pi, yu, lt), ⟨us, nw, t, s, st, rg, ps, tb, pd, sa, kp, pg, sp, it, pi, ua, yu, lt, rfl, rfl, ht, hs, fr_mono hR (by omega), hP⟩, ?_, ?_⟩
      · intro post hp
        unfold wpX_run
        exact br_f h0 (br_f hn hp)
      · intro post hp
        unfold wpY_run
        exact gd_Y0 h (br_f (by decide) hp)
  · obtain ⟨r, u, v, hr, hX, hY⟩ := rn_loop (n := n) (by omega) n 0 B t s us nw st rg ps tb pd sa kp pg sp it pi ua yu lt (by omega) (by omega) ht hs hR hP
    refine ⟨r, u, v, rl_mono hr (by omega), ?_, ?_⟩
    · intro post hp
      unfold wpX_run
      exact br_f (nI_pos (by omega)) (br_t (nI_le (b := 100) (by omega) (by omega)) ⟨_, hX post hp⟩)
    · intro post hp
      unfold wpY_run
      exact gd_Y1 (N := 101) hn (by decide) (br_t rfl ⟨_, hY post hp⟩)
section
variable {us nw : Int64} {tg sl : Int32} {st rg ps tb pd sa kp pg sp it pi : Nat → Int32} {ua yu lt : Nat → Int64}
theorem fm_loop {g p : Nat} (pi : Nat → Int32) : ∀ (d i : Nat), i + d = 6 → ∃ r : Int32,
    (∀ {us : Int64} {tg sl : Int32} {st rg ps tb pd sa kp pg sp it : Nat → Int32} {ua lt : Nat → Int64} {post : Int32 → Prop}, post r → wX_frame_22 post (nI g) (nI p) us tg sl st rg ps tb pd sa kp pg sp it pi ua lt (d + 1) (nI i)) ∧
    (∀ {nw : Int64} {tg sl : Int32} {st rg ps tb pd sa kp pg sp it : Nat → Int32} {yu lt : Nat → Int64} {post : Int32 → Prop}, post r → wY_frame_22 post (nI g) (nI p) nw tg sl st rg ps tb pd sa kp pg sp it pi yu lt (d + 1) (nI i)) := by
  have e1 : nI g * 8 + nI p = nI (8 * g + p) := by
    show nI g * nI 8 + nI p = _
    rw [pk_mul, nI_add, Nat.mul_comm]
  have e2 : 8 * nI g + nI p = nI (8 * g + p) := by
    show nI 8 * nI g + nI p = _
    rw [pk_mul, nI_add]
  intro d
  induction d with
  | zero =>
    intro i h
    have e : i = 6 := by omega
    subst e
    refine ⟨-1, ?_, ?_⟩
    · intro us tg sl st rg ps tb pd sa kp pg sp it ua lt post hp
      exact br_t (by decide) hp
    · intro nw tg sl st rg ps tb pd sa kp pg sp it yu lt post hp
      exact br_t (by decide) hp
  | succ d ih =>
    intro i h
    have h6 : ¬ (6 : Int32) ≤ nI i := nI_ge (b := 6) (by omega) (by omega)
    have ei : (nI i).toNatClampNeg = i := nI_clamp (by omega)
    have vi : vp_in (nI i) 6 := vp_in_nI (by omega) (by omega)
    by_cases hq : pi i = nI (8 * g + p)
    · refine ⟨nI i, ?_, ?_⟩
      · intro us tg sl st rg ps tb pd sa kp pg sp it ua lt post hp
        exact br_f h6 ⟨vi, br_t (by rw [ei, e1]; exact hq) hp⟩
      · intro nw tg sl st rg ps tb pd sa kp pg sp it yu lt post hp
        exact br_f h6 ⟨vi, br_t (by rw [ei, e2]; exact hq) hp⟩
    · obtain ⟨r, hX, hY⟩ := ih (i + 1) (by omega)
      refine ⟨r, ?_, ?_⟩
      · intro us tg sl st rg ps tb pd sa kp pg sp it ua lt post hp
        exact br_f h6 ⟨vi, br_f (by rw [ei, e1]; exact hq) (nm_r (nI_1 i) (hX hp))⟩
      · intro nw tg sl st rg ps tb pd sa kp pg sp it yu lt post hp
        exact br_f h6 ⟨vi, br_f (by rw [ei, e2]; exact hq) (nm_r (nI_1 i) (hY hp))⟩
end
theorem ev_word {B : Nat} {u : SX} {v : SY} (I : rl_R B u v) (v1 v2 : Int32) :
    ∃ r : Int32, (∀ post : Int32 → Prop, post r → wpX_word post u v1 v2) ∧ (∀ post : Int32 → Prop, post r → wpY_word post v v1 v2) := by
  obtain ⟨us, nw, t, s, st, rg, ps, tb, pd, sa, kp, pg, sp, it, pi, ua, yu, lt, rfl, rfl, ht, hs, hR, hP⟩ := I
  rcases gd_g v1 with h | ⟨g, hg, rfl⟩
  · refine ⟨0, ?_, ?_⟩
    · intro post hp
      unfold wpX_word
      exact gd_Guest0 h (br_t rfl hp)
    · intro post hp
      unfold wpY_word
      exact gd_Y0 h (br_f (by decide) hp)
  · rcases gd_a v2 with h | ⟨a, ha, rfl⟩
    · refine ⟨0, ?_, ?_⟩
      · intro post hp
        unfold wpX_word
        exact gd_Guest1 hg (br_f (by decide) (gd_Address0 h (br_t rfl hp)))
      · intro post hp
        unfold wpY_word
        exact gd_Y1 (N := 3) hg (by decide) (br_t rfl (gd_Y0 h (br_f (by decide) hp)))
    · have e1 : nI g * 64 + nI a = nI (64 * g + a) := ix_64 g a
      have e2 : 64 * nI g + nI a = nI (64 * g + a) := iy_64 g a
      have v : vp_in (nI (64 * g + a)) 320 := vp_in_nI (by omega) (by omega)
      have c : (nI (64 * g + a)).toNatClampNeg = 64 * g + a := nI_clamp (by omega)
      refine ⟨st (64 * g + a), ?_, ?_⟩
      · intro post hp
        unfold wpX_word
        exact gd_Guest1 hg (br_f (by decide) (gd_Address1 ha (br_f (by decide) ⟨by rw [e1]; exact v, by rw [e1, c]; exact hp⟩)))
      · intro post hp
        unfold wpY_word
        exact gd_Y1 (N := 3) hg (by decide) (br_t rfl (gd_Y1 (N := 64) ha (by decide) (br_t rfl ⟨by rw [e2]; exact v, by rw [e2, c]; exact hp⟩)))
theorem ev_guest {B : Nat} {u : SX} {v : SY} (I : rl_R B u v) (v1 v2 : Int32) :
    ∃ r : Int32, (∀ post : Int32 → Prop, post r → wpX_guest post u v1 v2) ∧ (∀ post : Int32 → Prop, post r → wpY_guest post v v1 v2) := by
  obtain ⟨us, nw, t, s, st, rg, ps, tb, pd, sa, kp, pg, sp, it, pi, ua, yu, lt, rfl, rfl, ht, hs, hR, hP⟩ := I
  rcases gd_g v1 with h | ⟨g, hg, rfl⟩
  · refine ⟨0, ?_, ?_⟩
    · intro post hp
      unfold wpX_guest
      exact gd_Guest0 h (br_t rfl hp)
    · intro post hp
      unfold wpY_guest
      exact gd_Y0 h (br_f (by decide) hp)
  · have eg : (nI g).toNatClampNeg = g := nI_clamp (by omega)
    have vg : vp_in (nI g) 5 := vp_in_nI (by omega) (by omega)
    have v3 : vp_in (nI g) 3 := vp_in_nI (by omega) (by omega)
    rcases gd_11 v2 with h | ⟨j, hj, rfl⟩
    · by_cases h0 : v2 < 0
      · refine ⟨0, ?_, ?_⟩
        · intro post hp
          unfold wpX_guest
          exact gd_Guest1 hg (br_f (by decide) (br_t h0 hp))
        · intro post hp
          unfold wpY_guest
          exact gd_Y1 (N := 3) hg (by decide) (br_t rfl (br_t h0 hp))
      · have h10 : 10 < v2 := Int32.lt_of_lt_of_le (by decide) (h.resolve_left h0)
        refine ⟨0, ?_, ?_⟩
        · intro post hp
          unfold wpX_guest
          exact gd_Guest1 hg (br_f (by decide) (br_f h0 (br_t h10 hp)))
        · intro post hp
          unfold wpY_guest
          exact gd_Y1 (N := 3) hg (by decide) (br_t rfl (br_f h0 (br_t h10 hp)))
    · have hc : j = 0 ∨ j = 1 ∨ j = 2 ∨ j = 3 ∨ j = 4 ∨ j = 5 ∨ j = 6 ∨ j = 7 ∨ j = 8 ∨ j = 9 ∨ j = 10 := by omega
      rcases hc with rfl | rfl | rfl | rfl | rfl | rfl | rfl | rfl | rfl | rfl | rfl
      · refine ⟨sa g, ?_, ?_⟩
        · intro post hp
          unfold wpX_guest
          exact gd_Guest1 hg (br_f (by decide) (br_f (by decide) (br_f (by decide) (br_t (by decide) (⟨vg, by rw [eg]; exact hp⟩)))))
        · intro post hp
          unfold wpY_guest
          exact gd_Y1 (N := 3) hg (by decide) (br_t rfl (br_f (by decide) (br_f (by decide) (br_t (by decide) (⟨vg, by rw [eg]; exact hp⟩)))))
      · refine ⟨ps g, ?_, ?_⟩
        · intro post hp
          unfold wpX_guest
          exact gd_Guest1 hg (br_f (by decide) (br_f (by decide) (br_f (by decide) (br_f (by decide) (br_t (by decide) (⟨vg, by rw [eg]; exact hp⟩))))))
        · intro post hp
          unfold wpY_guest
          exact gd_Y1 (N := 3) hg (by decide) (br_t rfl (br_f (by decide) (br_f (by decide) (br_f (by decide) (br_t (by decide) (⟨vg, by rw [eg]; exact hp⟩))))))
      · refine ⟨tb g, ?_, ?_⟩
        · intro post hp
          unfold wpX_guest
          exact gd_Guest1 hg (br_f (by decide) (br_f (by decide) (br_f (by decide) (br_f (by decide) (br_f (by decide) (br_t (by decide) (⟨vg, by rw [eg]; exact hp⟩)))))))
        · intro post hp
          unfold wpY_guest
          exact gd_Y1 (N := 3) hg (by decide) (br_t rfl (br_f (by decide) (br_f (by decide) (br_f (by decide) (br_f (by decide) (br_t (by decide) (⟨vg, by rw [eg]; exact hp⟩)))))))
      · have e1 : nI g * 4 + nI 3 - 3 = nI (4 * g + 0) := by rw [ix_4]; exact pk_sub (a := 4 * g + 3) (b := 3) (by omega)
        have e2 : 4 * nI g + nI 3 - 3 = nI (4 * g + 0) := by rw [iy_4]; exact pk_sub (a := 4 * g + 3) (b := 3) (by omega)
        have c : (nI (4 * g + 0)).toNatClampNeg = 4 * g + 0 := nI_clamp (by omega)
        have v : vp_in (nI (4 * g + 0)) 20 := vp_in_nI (by omega) (by omega)
        refine ⟨rg (4 * g + 0), ?_, ?_⟩
        · intro post hp
          unfold wpX_guest
          exact gd_Guest1 hg (br_f (by decide) (br_f (by decide) (br_f (by decide) (br_f (by decide) (br_f (by decide) (br_f (by decide) (br_t (by decide) (⟨by rw [e1]; exact v, by rw [e1, c]; exact hp⟩))))))))
        · intro post hp
          unfold wpY_guest
          exact gd_Y1 (N := 3) hg (by decide) (br_t rfl (br_f (by decide) (br_f (by decide) (br_f (by decide) (br_f (by decide) (br_f (by decide) (br_t (by decide) (⟨by rw [e2]; exact v, by rw [e2, c]; exact hp⟩))))))))
      · have e1 : nI g * 4 + nI 4 - 3 = nI (4 * g + 1) := by rw [ix_4]; exact pk_sub (a := 4 * g + 4) (b := 3) (by omega)
        have e2 : 4 * nI g + nI 4 - 3 = nI (4 * g + 1) := by rw [iy_4]; exact pk_sub (a := 4 * g + 4) (b := 3) (by omega)
        have c : (nI (4 * g + 1)).toNatClampNeg = 4 * g + 1 := nI_clamp (by omega)
        have v : vp_in (nI (4 * g + 1)) 20 := vp_in_nI (by omega) (by omega)
        refine ⟨rg (4 * g + 1), ?_, ?_⟩
        · intro post hp
          unfold wpX_guest
          exact gd_Guest1 hg (br_f (by decide) (br_f (by decide) (br_f (by decide) (br_f (by decide) (br_f (by decide) (br_f (by decide) (br_f (by decide) (br_t (by decide) (⟨by rw [e1]; exact v, by rw [e1, c]; exact hp⟩)))))))))
        · intro post hp
          unfold wpY_guest
          exact gd_Y1 (N := 3) hg (by decide) (br_t rfl (br_f (by decide) (br_f (by decide) (br_f (by decide) (br_f (by decide) (br_f (by decide) (br_f (by decide) (br_t (by decide) (⟨by rw [e2]; exact v, by rw [e2, c]; exact hp⟩)))))))))
      · have e1 : nI g * 4 + nI 5 - 3 = nI (4 * g + 2) := by rw [ix_4]; exact pk_sub (a := 4 * g + 5) (b := 3) (by omega)
        have e2 : 4 * nI g + nI 5 - 3 = nI (4 * g + 2) := by rw [iy_4]; exact pk_sub (a := 4 * g + 5) (b := 3) (by omega)
        have c : (nI (4 * g + 2)).toNatClampNeg = 4 * g + 2 := nI_clamp (by omega)
        have v : vp_in (nI (4 * g + 2)) 20 := vp_in_nI (by omega) (by omega)
        refine ⟨rg (4 * g + 2), ?_, ?_⟩
        · intro post hp
          unfold wpX_guest
          exact gd_Guest1 hg (br_f (by decide) (br_f (by decide) (br_f (by decide) (br_f (by decide) (br_f (by decide) (br_f (by decide) (br_f (by decide) (br_f (by decide) (br_t (by decide) (⟨by rw [e1]; exact v, by rw [e1, c]; exact hp⟩))))))))))
        · intro post hp
          unfold wpY_guest
          exact gd_Y1 (N := 3) hg (by decide) (br_t rfl (br_f (by decide) (br_f (by decide) (br_f (by decide) (br_f (by decide) (br_f (by decide) (br_f (by decide) (br_f (by decide) (br_t (by decide) (⟨by rw [e2]; exact v, by rw [e2, c]; exact hp⟩))))))))))
      · have e1 : nI g * 4 + nI 6 - 3 = nI (4 * g + 3) := by rw [ix_4]; exact pk_sub (a := 4 * g + 6) (b := 3) (by omega)
        have e2 : 4 * nI g + nI 6 - 3 = nI (4 * g + 3) := by rw [iy_4]; exact pk_sub (a := 4 * g + 6) (b := 3) (by omega)
        have c : (nI (4 * g + 3)).toNatClampNeg = 4 * g + 3 := nI_clamp (by omega)
        have v : vp_in (nI (4 * g + 3)) 20 := vp_in_nI (by omega) (by omega)
        refine ⟨rg (4 * g + 3), ?_, ?_⟩
        · intro post hp
          unfold wpX_guest
          exact gd_Guest1 hg (br_f (by decide) (br_f (by decide) (br_f (by decide) (br_f (by decide) (br_f (by decide) (br_f (by decide) (br_f (by decide) (br_f (by decide) (br_f (by decide) (br_t (by decide) (⟨by rw [e1]; exact v, by rw [e1, c]; exact hp⟩)))))))))))
        · intro post hp
          unfold wpY_guest
          exact gd_Y1 (N := 3) hg (by decide) (br_t rfl (br_f (by decide) (br_f (by decide) (br_f (by decide) (br_f (by decide) (br_f (by decide) (br_f (by decide) (br_f (by decide) (br_f (by decide) (br_t (by decide) (⟨by rw [e2]; exact v, by rw [e2, c]; exact hp⟩)))))))))))
      · refine ⟨pd g, ?_, ?_⟩
        · intro post hp
          unfold wpX_guest
          exact gd_Guest1 hg (br_f (by decide) (br_f (by decide) (br_f (by decide) (br_f (by decide) (br_f (by decide) (br_f (by decide) (br_f (by decide) (br_f (by decide) (br_f (by decide) (br_f (by decide) (br_t (by decide) (⟨vg, by rw [eg]; exact hp⟩))))))))))))
        · intro post hp
          unfold wpY_guest
          exact gd_Y1 (N := 3) hg (by decide) (br_t rfl (br_f (by decide) (br_f (by decide) (br_f (by decide) (br_f (by decide) (br_f (by decide) (br_f (by decide) (br_f (by decide) (br_f (by decide) (br_f (by decide) (br_t (by decide) (⟨vg, by rw [eg]; exact hp⟩))))))))))))
      · refine ⟨pg g, ?_, ?_⟩
        · intro post hp
          unfold wpX_guest
          exact gd_Guest1 hg (br_f (by decide) (br_f (by decide) (br_f (by decide) (br_f (by decide) (br_f (by decide) (br_f (by decide) (br_f (by decide) (br_f (by decide) (br_f (by decide) (br_f (by decide) (br_f (by decide) (br_t (by decide) (⟨v3, by rw [eg]; exact hp⟩)))))))))))))
        · intro post hp
          unfold wpY_guest
          exact gd_Y1 (N := 3) hg (by decide) (br_t rfl (br_f (by decide) (br_f (by decide) (br_f (by decide) (br_f (by decide) (br_f (by decide) (br_f (by decide) (br_f (by decide) (br_f (by decide) (br_f (by decide) (br_f (by decide) (br_t (by decide) (⟨v3, by rw [eg]; exact hp⟩)))))))))))))
      · refine ⟨sp g, ?_, ?_⟩
        · intro post hp
          unfold wpX_guest
          exact gd_Guest1 hg (br_f (by decide) (br_f (by decide) (br_f (by decide) (br_f (by decide) (br_f (by decide) (br_f (by decide) (br_f (by decide) (br_f (by decide) (br_f (by decide) (br_f (by decide) (br_f (by decide) (br_f (by decide) (br_t (by decide) (⟨v3, by rw [eg]; exact hp⟩))))))))))))))
        · intro post hp
          unfold wpY_guest
          exact gd_Y1 (N := 3) hg (by decide) (br_t rfl (br_f (by decide) (br_f (by decide) (br_f (by decide) (br_f (by decide) (br_f (by decide) (br_f (by decide) (br_f (by decide) (br_f (by decide) (br_f (by decide) (br_f (by decide) (br_f (by decide) (br_t (by decide) (⟨v3, by rw [eg]; exact hp⟩))))))))))))))
      · refine ⟨it g, ?_, ?_⟩
        · intro post hp
          unfold wpX_guest
          exact gd_Guest1 hg (br_f (by decide) (br_f (by decide) (br_f (by decide) (br_f (by decide) (br_f (by decide) (br_f (by decide) (br_f (by decide) (br_f (by decide) (br_f (by decide) (br_f (by decide) (br_f (by decide) (br_f (by decide) (br_f (by decide) (br_t (by decide) (⟨v3, by rw [eg]; exact hp⟩)))))))))))))))
        · intro post hp
          unfold wpY_guest
          exact gd_Y1 (N := 3) hg (by decide) (br_t rfl (br_f (by decide) (br_f (by decide) (br_f (by decide) (br_f (by decide) (br_f (by decide) (br_f (by decide) (br_f (by decide) (br_f (by decide) (br_f (by decide) (br_f (by decide) (br_f (by decide) (br_f (by decide) (br_t (by decide) (⟨v3, by rw [eg]; exact hp⟩)))))))))))))))
theorem ev_frame {B : Nat} {u : SX} {v : SY} (I : rl_R B u v) (v1 v2 : Int32) :
    ∃ r : Int32, (∀ post : Int32 → Prop, post r → wpX_frame post u v1 v2) ∧ (∀ post : Int32 → Prop, post r → wpY_frame post v v1 v2) := by
  obtain ⟨us, nw, t, s, st, rg, ps, tb, pd, sa, kp, pg, sp, it, pi, ua, yu, lt, rfl, rfl, ht, hs, hR, hP⟩ := I
  rcases gd_g v1 with h | ⟨g, hg, rfl⟩
  · refine ⟨-2, ?_, ?_⟩
    · intro post hp
      unfold wpX_frame
      exact gd_Guest0 h (br_t rfl hp)
    · intro post hp
      unfold wpY_frame
      exact gd_Y0 h (br_f (by decide) hp)
  · rcases gd_8 v2 with h | ⟨p, hp8, rfl⟩
    · by_cases h0 : v2 < 0
      · refine ⟨-2, ?_, ?_⟩
        · intro post hp
          unfold wpX_frame
          exact gd_Guest1 hg (br_f (by decide) (br_t h0 hp))
        · intro post hp
          unfold wpY_frame
          exact gd_Y1 (N := 3) hg (by decide) (br_t rfl (gd_Y0 h (br_f (by decide) hp)))
      · refine ⟨-2, ?_, ?_⟩
        · intro post hp
          unfold wpX_frame
          exact gd_Guest1 hg (br_f (by decide) (br_f h0 (br_f (Int32.not_lt.mpr (h.resolve_left h0)) hp)))
        · intro post hp
          unfold wpY_frame
          exact gd_Y1 (N := 3) hg (by decide) (br_t rfl (gd_Y0 h (br_f (by decide) hp)))
    · obtain ⟨r, fX, fY⟩ := fm_loop (g := g) (p := p) pi 6 0 (by omega)
      refine ⟨r, ?_, ?_⟩
      · intro post hp
        unfold wpX_frame
        exact gd_Guest1 hg (br_f (by decide) (br_f (nI_pos (by omega)) (br_t (nI_lt (b := 8) hp8 (by omega)) ⟨7, fX hp⟩)))
      · intro post hp
        unfold wpY_frame
        exact gd_Y1 (N := 3) hg (by decide) (br_t rfl (gd_Y1 (N := 8) hp8 (by decide) (br_t rfl ⟨7, fY hp⟩)))
theorem ev_leads {B : Nat} {u : SX} {v : SY} (I : rl_R B u v) (v1 v2 v3 : Int32) :
    ∃ r : Int32, (∀ post : Int32 → Prop, post r → wpX_leads post u v1 v2 v3) ∧ (∀ post : Int32 → Prop, post r → wpY_leads post v v1 v2 v3) := by
  obtain ⟨us, nw, t, s, st, rg, ps, tb, pd, sa, kp, pg, sp, it, pi, ua, yu, lt, rfl, rfl, ht, hs, hR, hP⟩ := I
  rcases gd_g v1 with h | ⟨g, hg, rfl⟩
  · refine ⟨-1, ?_, ?_⟩
    · intro post hp
      unfold wpX_leads
      exact gd_Guest0 h (br_t rfl hp)
    · intro post hp
      unfold wpY_leads
      exact gd_Y0 h (br_f (by decide) hp)
  · obtain ⟨a, ha, ea⟩ := bi_E63 v2
    obtain ⟨r, -, hX, hY⟩ := wk_both hg ha v3 v2 ea ps tb st
    refine ⟨r, ?_, ?_⟩
    · intro post hp
      unfold wpX_leads
      rw [ea]
      exact gd_Guest1 hg (br_f (by decide) (hX hp))
    · intro post hp
      unfold wpY_leads
      exact gd_Y1 (N := 3) hg (by decide) (br_t rfl (hY hp))
theorem ev_told {B : Nat} {u : SX} {v : SY} (I : rl_R B u v) (v1 : Int32) :
    ∃ r : Int64, (∀ post : Int64 → Prop, post r → wpX_told post u v1) ∧ (∀ post : Int64 → Prop, post r → wpY_told post v v1) := by
  obtain ⟨us, nw, t, s, st, rg, ps, tb, pd, sa, kp, pg, sp, it, pi, ua, yu, lt, rfl, rfl, ht, hs, hR, hP⟩ := I
  rcases gd_8 v1 with h | ⟨j, hj, rfl⟩
  · by_cases h0 : v1 < 0
    · refine ⟨-1, ?_, ?_⟩
      · intro post hp
        unfold wpX_told
        exact br_t h0 hp
      · intro post hp
        unfold wpY_told
        exact gd_Y0 h (br_f (by decide) hp)
    · refine ⟨-1, ?_, ?_⟩
      · intro post hp
        unfold wpX_told
        exact br_f h0 (br_f (Int32.not_lt.mpr (h.resolve_left h0)) hp)
      · intro post hp
        unfold wpY_told
        exact gd_Y0 h (br_f (by decide) hp)
  · have e : (nI j).toNatClampNeg = j := nI_clamp (by omega)
    have v : vp_in (nI j) 8 := vp_in_nI (by omega) (by omega)
    refine ⟨lt j, ?_, ?_⟩
    · intro post hp
      unfold wpX_told
      exact br_f (nI_pos (by omega)) (br_t (nI_lt (b := 8) hj (by omega)) ⟨v, by rw [e]; exact hp⟩)
    · intro post hp
      unfold wpY_told
      exact gd_Y1 (N := 8) hj (by decide) (br_t rfl ⟨v, by rw [e]; exact hp⟩)
theorem ev_turn {B : Nat} {u : SX} {v : SY} (I : rl_R B u v) (v1 : Int32) :
    ∃ r : Int32, (∀ post : Int32 → Prop, post r → wpX_turn post u v1) ∧ (∀ post : Int32 → Prop, post r → wpY_turn post v v1) := by
  obtain ⟨us, nw, t, s, st, rg, ps, tb, pd, sa, kp, pg, sp, it, pi, ua, yu, lt, rfl, rfl, ht, hs, hR, hP⟩ := I
  by_cases h0 : v1 = 0
  · refine ⟨nI t, ?_, ?_⟩
    · intro post hp
      unfold wpX_turn
      exact br_t h0 hp
    · intro post hp
      unfold wpY_turn
      exact br_t h0 hp
  · refine ⟨nI s, ?_, ?_⟩
    · intro post hp
      unfold wpX_turn
      exact br_f h0 hp
    · intro post hp
      unfold wpY_turn
      exact br_f h0 hp
