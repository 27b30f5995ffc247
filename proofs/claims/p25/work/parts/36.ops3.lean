section O3
variable {n t : Nat} {g : FF} {u : VV} {posf : Int32 → FF → VV → Prop}
/-- what is told of a test -/
def ot5 (g : FF) (n t j : Nat) (w : Int32) : Int32 := if w = 0 then g 6 j else if w = 1 then g 7 j else if w = 2 then wgt (g 6 j) (g 7 j) else if w = 3 then g 8 j else if w = 4 then g 9 j else if w = 5 then out (g 3) (g 4) (g 5) (g 8 j) (g 9 j) n else if w = 6 then kB (kls g n t) (4 * n) j else -2
theorem kB_cong {B B' : Nat → Int32} {m j : Nat} (h : ∀ q, q < m → B q = B' q) : kB B m j = kB B' m j := bs_cong (fun q hq => by rw [h q hq])
theorem q5_ofTest {j : Nat} {w : Int32} (hP : PI n t (sb g 3) (sb u 2)) (hn : 0 < n) (hj : j < t) (h : ∀ g', FE g u g' u → posf (ot5 g n t j w) g' u) : Q_X5_ofTest (nI j) w g u posf := by
  have ht := hP.2.1
  have vj : vp_in (nI j) 7 := vi_nI (by omega) (by omega)
  unfold ot5 at h
  refine q5_isTest1 hP hj (yes1' ?_)
  rw [nI_clamp (by omega)]
  refine ⟨fun c => ⟨vj, ?_⟩, fun c0 => ⟨fun c => ⟨vj, ?_⟩, fun c1 => ⟨fun c => q5_weightOf (by omega) ?_, fun c2 => ⟨fun c => ⟨vj, ?_⟩, fun c3 => ⟨fun c => ⟨vj, ?_⟩, fun c4 => ⟨fun c => ⟨vj, vj, q5_plainRun hP hn (fun g' hs _ => ?_)⟩, fun c5 => ⟨fun c => q5_findKillers hP (fun g' hs hB => ?_), fun c6 => ?_⟩⟩⟩⟩⟩⟩⟩
  · rw [if_pos c] at h; exact h g FE.rf
  · rw [if_neg c0, if_pos c] at h; exact h g FE.rf
  · rw [if_neg c0, if_neg c1, if_pos c] at h; exact h g FE.rf
  · rw [if_neg c0, if_neg c1, if_neg c2, if_pos c] at h; exact h g FE.rf
  · rw [if_neg c0, if_neg c1, if_neg c2, if_neg c3, if_pos c] at h; exact h g FE.rf
  · rw [if_neg c0, if_neg c1, if_neg c2, if_neg c3, if_neg c4, if_pos c] at h; exact h g' hs.fe
  · rw [if_neg c0, if_neg c1, if_neg c2, if_neg c3, if_neg c4, if_neg c5, if_pos c] at h
    have hP' : PI n t (sb g' 3) (sb u 2) := hP.rows (fun j hj => hs.pv j (by omega)) rfl rfl
    refine q5_killedBy hP' (by omega) ?_
    rw [kB_cong hB]; exact h g' hs.fe
  · rw [if_neg c0, if_neg c1, if_neg c2, if_neg c3, if_neg c4, if_neg c5, if_neg c6] at h; exact h g FE.rf
/-- what is told of a mutant -/
def om5 (g : FF) (n t q : Nat) (w : Int32) : Int32 := if w = 0 then nI (q / 4) else if w = 1 then ow (g 3 (q / 4)) (q % 4) else if w = 2 then kls g n t q else if w = 3 then (if nI (cntK (sb g 3) n q 100) = 0 then 1 else 0) else if w = 4 then nI (cntK (sb g 3) n q 100) else if w = 5 then b2 (least (kls g n t) (4 * n) q) else if w = 6 then nI (fb_ct (fun k => sub (kls g n t) k q) (4 * n)) else -2
theorem sub_cong {B B' : Nat → Int32} {m : Nat} (h : ∀ q, q < m → B q = B' q) {q k : Nat} (hq : q < m) (hk : k < m) : sub B q k = sub B' q k := by unfold sub; rw [h q hq, h k hk]
theorem q5_ofMutant {q : Nat} {w : Int32} (hP : PI n t (sb g 3) (sb u 2)) (hq : q < 4 * n) (h : ∀ g', FE g u g' u → posf (om5 g n t q w) g' u) : Q_X5_ofMutant (nI q) w g u posf := by
  have hn := hP.1
  have vq : vp_in (nI q) 20 := vi_nI (by omega) (by omega)
  unfold om5 at h
  refine q5_isMutant1 hP hq (yes1' (q5_findKillers hP (fun g' hs hB => ?_)))
  have hP' : PI n t (sb g' 3) (sb u 2) := hP.rows (fun j hj => hs.pv j (by omega)) rfl rfl
  have e3 : g' 3 = g 3 := hs 3 (by decide) (by decide)
  rw [nI_clamp (by omega)]
  refine ⟨fun c => q5_stepOf (by omega) ?_, fun c0 => ⟨fun c => q5_otherWay hP' hq ?_, fun c1 => ⟨fun c => ⟨vq, ?_⟩, fun c2 => ⟨fun c => q5_differs hP' hq (fun g2 hs2 => ?_), fun c3 => ⟨fun c => q5_differs hP' hq (fun g2 hs2 => ?_), fun c4 => ⟨fun c => q5_isLeast hP' hq ?_, fun c5 => ⟨fun c => q5_subsumed hP' hq ?_, fun c6 => ?_⟩⟩⟩⟩⟩⟩⟩
  · rw [if_pos c] at h; exact h g' hs.fe
  · rw [if_neg c0, if_pos c] at h; rw [e3]; exact h g' hs.fe
  · rw [if_neg c0, if_neg c1, if_pos c] at h; rw [hB q hq]; exact h g' hs.fe
  · rw [if_neg c0, if_neg c1, if_neg c2, if_pos c] at h
    rw [cntK_rows (fun j hj => hs.pv j hj)]
    refine ⟨fun z => ?_, fun z => ?_⟩
    · rw [if_neg z] at h; exact h g2 (hs.fe.tr hs2.fe)
    · rw [if_pos z] at h; exact h g2 (hs.fe.tr hs2.fe)
  · rw [if_neg c0, if_neg c1, if_neg c2, if_neg c3, if_pos c] at h
    rw [cntK_rows (fun j hj => hs.pv j hj)]
    exact h g2 (hs.fe.tr hs2.fe)
  · rw [if_neg c0, if_neg c1, if_neg c2, if_neg c3, if_neg c4, if_pos c] at h
    rw [least_cong hB hq]
    have := h g' hs.fe
    cases hb : least (kls g n t) (4 * n) q with
    | false => rw [hb] at this; exact no0 this
    | true => rw [hb] at this; exact yes1 this
  · rw [if_neg c0, if_neg c1, if_neg c2, if_neg c3, if_neg c4, if_neg c5, if_pos c] at h
    rw [show fb_ct (fun k => sub (g' 13) k q) (4 * n) = fb_ct (fun k => sub (kls g n t) k q) (4 * n) from fb_ct_cong (fun k hk => sub_cong hB hk hq)]
    exact h g' hs.fe
  · rw [if_neg c0, if_neg c1, if_neg c2, if_neg c3, if_neg c4, if_neg c5, if_neg c6] at h; exact h g' hs.fe
end O3
theorem Kf.b34 {n t : Nat} {p : FF} {f' : FF} {v' : VV} {g : FF} (h : Kf n t p f' v') (ha : Agree n t p (sb g 3)) : ∀ q, q < 4 * n → f' 34 q = kls g n t q := fun q hq => (h.2.2.2.1 q hq).trans (kls_eq ha hq)
theorem op_ofTest (p0 p1 : Int32) (f : FF) (v : VV) (g : FF) (u : VV) (h : Rel0 f v g u) : Q_X4_ofTest p0 p1 f v (fun r f1 v1 => Q_X5_ofTest p0 p1 g u (fun r' g1 u1 => r = r' ∧ Rel0 f1 v1 g1 u1)) := by
  obtain ⟨n, t, P1, P2, P3, P4, P5⟩ := h.2.1
  have hn := P1.1
  have ht := P1.2.1
  refine q_hasTest P1 (fun k hk ek => yes1' ?_) (fun hk => no0' (q5_isTest0 P2 hk (no0' ⟨rfl, h⟩)))
  subst ek
  have hn0 : 0 < n := Nat.pos_of_ne_zero (fun z => by have := P3.mp z; omega)
  have vk : vp_in (nI k) 7 := vi_nI (by omega) (by omega)
  obtain ⟨a1, a2, a3, a4⟩ := P4.2 k hk
  have a1 : f 8 k = g 6 k := a1
  have a2 : f 9 k = g 7 k := a2
  have a3 : f 10 k = g 8 k := a3
  have a4 : f 11 k = g 9 k := a4
  have fin : ∀ (r : Int32) (f1 : FF) (v1 : VV), FC f v f1 v1 → r = ot5 g n t k p1 → Q_X5_ofTest (nI k) p1 g u (fun r' g1 u1 => r = r' ∧ Rel0 f1 v1 g1 u1) := fun r f1 v1 hc er => q5_ofTest P2 hn0 hk (fun g' he => ⟨er, h.fr hc he⟩)
  unfold ot5 at fin
  rw [nI_clamp (by omega)]
  refine ⟨fun c => ⟨vk, fin _ _ _ FC.rf ?_⟩, fun c0 => ⟨fun c => ⟨vk, fin _ _ _ FC.rf ?_⟩, fun c1 => ⟨fun c => q_weight P1 hk (fin _ _ _ FC.rf ?_), fun c2 => ⟨fun c => ⟨vk, fin _ _ _ FC.rf ?_⟩, fun c3 => ⟨fun c => ⟨vk, fin _ _ _ FC.rf ?_⟩, fun c4 => ⟨fun c => q_runTest P1 hk (fun f' hf' _ f10 ef v11 ev => fin _ _ _ ((back_fb (Sm.of7 hf') ef ev).1.fc (by decide)) ?_), fun c5 => ⟨fun c => q_killedByTest P1 hk (fun f' hf' f10 ef v11 ev => fin _ _ _ ((back_fb hf' ef ev).1.fc (by decide)) ?_), fun c6 => fin _ _ _ FC.rf ?_⟩⟩⟩⟩⟩⟩⟩
  · rw [if_pos c]; exact a1
  · rw [if_neg c0, if_pos c]; exact a2
  · rw [if_neg c0, if_neg c1, if_pos c]; exact ag_wgt P4 hk
  · rw [if_neg c0, if_neg c1, if_neg c2, if_pos c]; exact a3
  · rw [if_neg c0, if_neg c1, if_neg c2, if_neg c3, if_pos c]; exact a4
  · rw [if_neg c0, if_neg c1, if_neg c2, if_neg c3, if_neg c4, if_pos c, ← a3, ← a4]; exact ag_out P4 _ _
  · rw [if_neg c0, if_neg c1, if_neg c2, if_neg c3, if_neg c4, if_neg c5, if_pos c]; exact kB_eq P4 hn ht hk (fun _ _ => rfl)
  · rw [if_neg c0, if_neg c1, if_neg c2, if_neg c3, if_neg c4, if_neg c5, if_neg c6]
theorem op_ofMutant (p0 p1 : Int32) (f : FF) (v : VV) (g : FF) (u : VV) (h : Rel0 f v g u) : Q_X4_ofMutant p0 p1 f v (fun r f1 v1 => Q_X5_ofMutant p0 p1 g u (fun r' g1 u1 => r = r' ∧ Rel0 f1 v1 g1 u1)) := by
  obtain ⟨n, t, P1, P2, P3, P4, P5⟩ := h.2.1
  have hn := P1.1
  have ht := P1.2.1
  refine q_hasMutant P1 (fun q hq eq => yes1' ?_) (fun hk => no0' (q5_isMutant0 P2 hk (no0' ⟨rfl, h⟩)))
  subst eq
  have vq : vp_in (nI q) 20 := vi_nI (by omega) (by omega)
  have fin : ∀ (r : Int32) (f1 : FF) (v1 : VV), FC f v f1 v1 → r = om5 g n t q p1 → Q_X5_ofMutant (nI q) p1 g u (fun r' g1 u1 => r = r' ∧ Rel0 f1 v1 g1 u1) := fun r f1 v1 hc er => q5_ofMutant P2 hq (fun g' he => ⟨er, h.fr hc he⟩)
  unfold om5 at fin
  have ec : cntK (sb f 5) n q 100 = cntK (sb g 3) n q 100 := ag_cnt P4 hq 100
  rw [nI_clamp (by omega)]
  refine ⟨fun c => q_stepOf (by omega) (fin _ _ _ FC.rf ?_), fun c0 => ⟨fun c => q_otherWay P1 hq (fin _ _ _ FC.rf ?_), fun c1 => ⟨fun c => q_killsNow P1 (fun f' v' hc hK => ⟨vq, fin _ _ _ hc ?_⟩), fun c2 => ⟨fun c => q_differences P1 hq (fun f' hf' f10 ef v11 ev => ⟨fun z => q_oneIf (fin _ _ _ ((back_fb hf' ef ev).1.fc (by decide)) ?_), fun z => q_oneIf (fin _ _ _ ((back_fb hf' ef ev).1.fc (by decide)) ?_)⟩), fun c3 => ⟨fun c => q_differences P1 hq (fun f' hf' f10 ef v11 ev => fin _ _ _ ((back_fb hf' ef ev).1.fc (by decide)) ?_), fun c4 => ⟨fun c => q_killsNow P1 (fun f' v' hc hK => q_isLeast hK.1 hq (fun hl => q_oneIf (fin _ _ _ hc ?_)) (fun hl => q_oneIf (fin _ _ _ hc ?_))), fun c5 => ⟨fun c => q_killsNow P1 (fun f' v' hc hK => q_countSubsumed hK.1 hq (fin _ _ _ hc ?_)), fun c6 => fin _ _ _ FC.rf ?_⟩⟩⟩⟩⟩⟩⟩
  · rw [if_pos c]
  · rw [if_neg c0, if_pos c]; show ow (f 5 (q / 4)) _ = _; rw [show f 5 (q / 4) = g 3 (q / 4) from (P4.1 (q / 4) (by omega)).1]
  · rw [if_neg c0, if_neg c1, if_pos c]; exact hK.b34 P4 q hq
  · rw [if_neg c0, if_neg c1, if_neg c2, if_pos c]; rw [ec] at z; rw [if_neg z]; rfl
  · rw [if_neg c0, if_neg c1, if_neg c2, if_pos c]; rw [ec] at z; rw [if_pos z]; rfl
  · rw [if_neg c0, if_neg c1, if_neg c2, if_neg c3, if_pos c, ec]
  · rw [if_neg c0, if_neg c1, if_neg c2, if_neg c3, if_neg c4, if_pos c]
    have hl : least (f' 34) (4 * n) q = true := hl
    rw [least_cong (hK.b34 P4) hq] at hl
    rw [hl]; rfl
  · rw [if_neg c0, if_neg c1, if_neg c2, if_neg c3, if_neg c4, if_pos c]
    have hl : least (f' 34) (4 * n) q = false := hl
    rw [least_cong (hK.b34 P4) hq] at hl
    rw [hl]; rfl
  · rw [if_neg c0, if_neg c1, if_neg c2, if_neg c3, if_neg c4, if_neg c5, if_pos c]
    show nI (fb_ct (fun k => sub (f' 34) k q) (4 * n)) = _
    rw [show fb_ct (fun k => sub (f' 34) k q) (4 * n) = fb_ct (fun k => sub (kls g n t) k q) (4 * n) from fb_ct_cong (fun k hk => sub_cong (hK.b34 P4) hk hq)]
  · rw [if_neg c0, if_neg c1, if_neg c2, if_neg c3, if_neg c4, if_neg c5, if_neg c6]
theorem op_state (p0 p1 : Int32) (f : FF) (v : VV) (g : FF) (u : VV) (h : Rel0 f v g u) : Q_X4_state p0 p1 f v (fun r f1 v1 => Q_X5_state p0 p1 g u (fun r' g1 u1 => r = r' ∧ Rel0 f1 v1 g1 u1)) := by
  obtain ⟨n, t, P1, P2, P3, P4, P5⟩ := h.2.1
  have hn := P1.1
  have ht := P1.2.1
  refine q_hasMutant P1 (fun q hq eq => yes1 ?_) (fun hk => no0 (q5_isMutant0 P2 hk (no0 ⟨rfl, h⟩)))
  subst eq
  refine q_hasTest P1 (fun k hk ek => yes1' ?_) (fun hk => no0' (q5_isMutant1 P2 hq (yes1 (q5_isTest0 P2 hk (no0' ⟨rfl, h⟩)))))
  subst ek
  refine q_runTest P1 hk (fun f' hf' hF f8 ef v9 ev => ?_)
  obtain ⟨hb, hr⟩ := back_fb (Sm.of7 hf') ef ev
  have rr : ∀ j, j < 7 → sb f8 5 j = sb f 5 j := fun j hj => (hr j (by omega)).trans (hf' j (by omega))
  have P1' : PI n t (sb f8 5) (sb v9 11) := P1.rows (fun j hj => rr j (by omega)) (hb.2 11 (by decide)) (hb.2 12 (by decide))
  have hF' : FG n (sb f 5 5 k) (sb f 5 6 k) (sb f8 5) := by
    intro j hj
    rw [rr 0 (by decide), rr 1 (by decide), rr 2 (by decide)]
    have := hF j hj
    rw [hf' 0 (by decide), hf' 1 (by decide), hf' 2 (by decide)] at this
    rw [← this]
    exact congrFun (hr 7 (by decide)) j
  refine q_effect P1' hF' hq (fun f'' hf'' f13 ef2 v14 ev2 => ?_)
  have hc : FC f v f13 v14 := (hb.fc (by decide)).tr ((back_fb (Sm.of8 hf'') ef2 ev2).1.fc (by decide))
  rw [rr 0 (by decide), rr 1 (by decide), rr 2 (by decide)]
  have x5 : sb f 5 5 k = g 8 k := (P4.2 k hk).2.2.1
  have x6 : sb f 5 6 k = g 9 k := (P4.2 k hk).2.2.2
  rw [x5, x6]
  have em : mval (sb f 5 0) (sb f 5 1) (sb f 5 2) n (g 8 k) (g 9 k) q = mval (g 3) (g 4) (g 5) n (g 8 k) (g 9 k) q := ag_mval P4 hq _ _
  have et : tab (sb f 5 0) (sb f 5 1) (sb f 5 2) (g 8 k) (g 9 k) n = tab (g 3) (g 4) (g 5) (g 8 k) (g 9 k) n := ag_tab P4 (Nat.le_refl _) _ _
  have ek : kill (sb f 5 0) (sb f 5 1) (sb f 5 2) n (g 8 k) (g 9 k) q = kt' (sb g 3) n k q := ag_kill P4 hq _ _
  have ef : eff (sb f 5 0) (sb f 5 1) (sb f 5 2) n (g 8 k) (g 9 k) q = eff (g 3) (g 4) (g 5) n (g 8 k) (g 9 k) q := by
    unfold eff; rw [em, et, ek]; rfl
  rw [ef]
  have e2 := eff_2 (x := g 8 k) (y := g 9 k) (w := g 3) (a := g 4) (b := g 5) hn hq P2.2.2.2.2
  refine q5_isMutant1 P2 hq (yes1 (q5_isTest1 P2 hk (yes1' (q5_kills P2 hk hq (fun hkl g' hs => yes1 ⟨e2.mpr hkl, h.fr hc hs.fe⟩) (fun hkl g' hs => no0 ?_)))))
  have P2' : PI n t (sb g' 3) (sb u 2) := P2.rows (fun j hj => hs.pv j (by omega)) rfl rfl
  have nk : ¬ kill (g 3) (g 4) (g 5) n (g 8 k) (g 9 k) q = true := by
    have hkl : kill (g 3) (g 4) (g 5) n (g 8 k) (g 9 k) q = false := hkl
    rw [hkl]; decide
  have r3 := hs 3 (by decide)
  have r4 := hs 4 (by decide)
  have r5 := hs 5 (by decide)
  have r8 := hs 8 (by decide)
  have r9 := hs 9 (by decide)
  refine q5_infects P2' hk hq (fun hm g2 hs2 => yes1 ⟨?_, h.fr hc (hs.fe.tr hs2.fe)⟩) (fun hm g2 hs2 => no0 ⟨?_, h.fr hc (hs.fe.tr hs2.fe)⟩)
  · rw [r3, r4, r5, r8, r9] at hm
    unfold eff; rw [if_neg hm, if_neg nk]
  · rw [r3, r4, r5, r8, r9] at hm
    unfold eff; rw [if_pos hm]
theorem op_subsumes (p0 p1 : Int32) (f : FF) (v : VV) (g : FF) (u : VV) (h : Rel0 f v g u) : Q_X4_subsumes p0 p1 f v (fun r f1 v1 => Q_X5_subsumes p0 p1 g u (fun r' g1 u1 => r = r' ∧ Rel0 f1 v1 g1 u1)) := by
  obtain ⟨n, t, P1, P2, P3, P4, P5⟩ := h.2.1
  have hn := P1.1
  refine q_hasMutant P1 (fun q hq eq => yes1 ?_) (fun hk => no0 (q5_isMutant0 P2 hk (no0 ⟨rfl, h⟩)))
  subst eq
  refine q_hasMutant P1 (fun r hr er => yes1' ?_) (fun hk => no0' (q5_isMutant1 P2 hq (yes1 (q5_isMutant0 P2 hk (no0' ⟨rfl, h⟩)))))
  subst er
  refine q_killsNow P1 (fun f' v' hc hK => ?_)
  have e : sub (f' 34) r q = sub (kls g n t) r q := sub_cong (hK.b34 P4) hr hq
  have fin : ∀ b : Bool, sub (kls g n t) r q = b → Q_X5_subsumes (nI q) (nI r) g u (fun r' g1 u1 => b2 b = r' ∧ Rel0 f' v' g1 u1) := by
    intro b eb
    refine q5_isMutant1 P2 hq (yes1 (q5_isMutant1 P2 hr (yes1' (q5_findKillers P2 (fun g' hs hB => q5_doesSubsume (by omega) (by omega) (fun hb => yes1 ⟨?_, h.fr hc hs.fe⟩) (fun hb => no0 ⟨?_, h.fr hc hs.fe⟩))))))
    · rw [sub_cong hB hr hq, eb] at hb; rw [hb]; rfl
    · rw [sub_cong hB hr hq, eb] at hb; rw [hb]; rfl
  refine q_isSubsumed hK.1 hr hq (fun hs => q_oneIf (fin true ?_)) (fun hs => q_oneIf (fin false ?_))
  · rw [← e]; exact hs
  · rw [← e]; exact hs
theorem op_odds (p0 p1 : Int32) (f : FF) (v : VV) (g : FF) (u : VV) (h : Rel0 f v g u) : Q_X4_odds p0 p1 f v (fun r f1 v1 => Q_X5_odds p0 p1 g u (fun r' g1 u1 => r = r' ∧ Rel0 f1 v1 g1 u1)) := by
  obtain ⟨n, t, P1, P2, P3, P4, P5⟩ := h.2.1
  have hn := P1.1
  refine q_hasMutant P1 (fun q hq eq => yes1 ?_) (fun hk => no0 (q5_isMutant0 P2 hk (no0 ⟨rfl, h⟩)))
  subst eq
  refine q_isWithin (fun a b => yes1' ?_) (fun a => no0' (q5_isMutant1 P2 hq (yes1 (q5_within0 a (no0 ⟨rfl, h⟩)))))
  refine q_differences P1 hq (fun f' hf' f8 ef v9 ev => ?_)
  have hcn : cntK (sb f 5) n q 100 ≤ 100 := cntK_le _ _ _ _
  refine q_share (b := 100) (by omega) (by omega) ?_
  refine q5_isMutant1 P2 hq (yes1 (q5_within1 a b (yes1 (q5_differs P2 hq (fun g' hs => ?_)))))
  rw [← ag_cnt P4 hq 100, i2l (by omega)]
  refine q5_inLeastTerms (b := 100) (by omega) (by omega) (by omega) ⟨?_, h.fr ((back_fb hf' ef ev).1.fc (by decide)) hs.fe⟩
  unfold shr; rw [if_neg (by decide)]
