/-! ===== programs that agree ===== -/
theorem tab_cong3 {w w' a a' b b' : Nat → Int32} {x y : Int32} : ∀ {m : Nat}, (∀ k, k < m → w k = w' k ∧ a k = a' k ∧ b k = b' k) → tab w a b x y m = tab w' a' b' x y m
  | 0, _ => rfl
  | m + 1, h => by
    rw [tab, tab, tab_cong3 (fun k hk => h k (by omega)), (h m (by omega)).1, (h m (by omega)).2.1, (h m (by omega)).2.2]
section AG
variable {n t : Nat} {p q : FF}
theorem ag_tab (h : Agree n t p q) {m : Nat} (hm : m ≤ n) (x y : Int32) : tab (p 0) (p 1) (p 2) x y m = tab (q 0) (q 1) (q 2) x y m := tab_cong3 (fun k hk => h.1 k (by omega))
theorem ag_out (h : Agree n t p q) (x y : Int32) : out (p 0) (p 1) (p 2) x y n = out (q 0) (q 1) (q 2) x y n := by
  unfold out; rw [ag_tab h (Nat.le_refl _)]
theorem ag_mw (h : Agree n t p q) {m : Nat} (hm : m < 4 * n) (x y : Int32) : out (mw (p 0) m) (p 1) (p 2) x y n = out (mw (q 0) m) (q 1) (q 2) x y n := by
  unfold out
  rw [tab_cong3 (fun k hk => ⟨?_, (h.1 k hk).2.1, (h.1 k hk).2.2⟩)]
  by_cases e : k = m / 4
  · rw [e, mw_at, mw_at, (h.1 (m / 4) (by omega)).1]
  · rw [mw_ne e, mw_ne e, (h.1 k hk).1]
theorem ag_kill (h : Agree n t p q) {m : Nat} (hm : m < 4 * n) (x y : Int32) : kill (p 0) (p 1) (p 2) n x y m = kill (q 0) (q 1) (q 2) n x y m := by
  unfold kill; rw [ag_mw h hm, ag_out h]
theorem ag_kt (h : Agree n t p q) {j m : Nat} (hj : j < t) (hm : m < 4 * n) : kt' p n j m = kt' q n j m := by
  unfold kt'; rw [(h.2 j hj).2.2.1, (h.2 j hj).2.2.2, ag_kill h hm]
theorem ag_cnt (h : Agree n t p q) {m : Nat} (hm : m < 4 * n) : ∀ k, cntK p n m k = cntK q n m k
  | 0 => rfl
  | k + 1 => by rw [cntK, cntK, ag_cnt h hm k, ag_kill h hm]
theorem ag_mval (h : Agree n t p q) {m : Nat} (hm : m < 4 * n) (x y : Int32) : mval (p 0) (p 1) (p 2) n x y m = mval (q 0) (q 1) (q 2) n x y m := by
  unfold mval; rw [ag_tab h (Nat.le_refl _), (h.1 (m / 4) (by omega)).1, (h.1 (m / 4) (by omega)).2.1, (h.1 (m / 4) (by omega)).2.2]
theorem ag_wgt (h : Agree n t p q) {j : Nat} (hj : j < t) : wgt (p 3 j) (p 4 j) = wgt (q 3 j) (q 4 j) := by rw [(h.2 j hj).1, (h.2 j hj).2.1]
end AG
/-- the killers, in the reference's and in the class's words -/
theorem kls_eq {n t : Nat} {p : FF} {g : FF} (h : Agree n t p (sb g 3)) {m : Nat} (hm : m < 4 * n) : bs (fun i => kt' p n i m) t = kls g n t m := by
  unfold kls; exact bs_cong (fun k hk => ag_kt h hk hm)
theorem kB_eq {n t : Nat} {p : FF} {g : FF} (h : Agree n t p (sb g 3)) (hn : n ≤ 5) (ht : t ≤ 7) {j : Nat} (hj : j < t) {B : Nat → Int32} (hB : ∀ q, q < 4 * n → B q = kls g n t q) : bs (kt' p n j) (4 * n) = kB B (4 * n) j := by
  unfold kB
  refine bs_cong (fun q hq => ?_)
  rw [hB q hq]
  unfold kls
  rw [bt_bs _ t (by omega) j (by omega), decide_eq_true hj, Bool.true_and, ag_kt h hj hq]
/-! ===== the ops that only tell, first part ===== -/
section O1
variable {f : FF} {v : VV} {g : FF} {u : VV}
theorem q5_isStep1 {n t k : Nat} {post : Int32 → Prop} (hP : PI n t (sb g 3) (sb u 2)) (hk : k < n) (h : post 1) : Q_X5_isStep (nI k) g u post := q5_isStep hP (fun _ _ _ => h) (fun c => absurd rfl (c k hk))
theorem q5_isStep0 {n t : Nat} {p : Int32} {post : Int32 → Prop} (hP : PI n t (sb g 3) (sb u 2)) (hk : ∀ k, k < n → p ≠ nI k) (h : post 0) : Q_X5_isStep p g u post := q5_isStep hP (fun k a e => absurd e (hk k a)) (fun _ => h)
theorem q5_isTest1 {n t k : Nat} {post : Int32 → Prop} (hP : PI n t (sb g 3) (sb u 2)) (hk : k < t) (h : post 1) : Q_X5_isTest (nI k) g u post := q5_isTest hP (fun _ _ _ => h) (fun c => absurd rfl (c k hk))
theorem q5_isTest0 {n t : Nat} {p : Int32} {post : Int32 → Prop} (hP : PI n t (sb g 3) (sb u 2)) (hk : ∀ k, k < t → p ≠ nI k) (h : post 0) : Q_X5_isTest p g u post := q5_isTest hP (fun k a e => absurd e (hk k a)) (fun _ => h)
theorem q5_isMutant1 {n t k : Nat} {post : Int32 → Prop} (hP : PI n t (sb g 3) (sb u 2)) (hk : k < 4 * n) (h : post 1) : Q_X5_isMutant (nI k) g u post := q5_isMutant hP (fun _ _ _ => h) (fun c => absurd rfl (c k hk))
theorem q5_isMutant0 {n t : Nat} {p : Int32} {post : Int32 → Prop} (hP : PI n t (sb g 3) (sb u 2)) (hk : ∀ k, k < 4 * n → p ≠ nI k) (h : post 0) : Q_X5_isMutant p g u post := q5_isMutant hP (fun k a e => absurd e (hk k a)) (fun _ => h)
theorem op_ofStep (p0 p1 : Int32) (f : FF) (v : VV) (g : FF) (u : VV) (h : Rel0 f v g u) : Q_X4_ofStep p0 p1 f v (fun r => Q_X5_ofStep p0 p1 g u (fun r' => r = r' ∧ Rel0 f v g u)) := by
  obtain ⟨n, t, P1, P2, P3, P4, P5⟩ := h.2.1
  have hn := P1.1
  refine q_hasStep P1 (fun k hk ek => yes1' ?_) (fun hk => no0' (q5_isStep0 P2 hk (no0' ⟨rfl, h⟩)))
  subst ek
  obtain ⟨a1, a2, a3⟩ := P4.1 k hk
  have a1 : f 5 k = g 3 k := a1
  have a2 : f 6 k = g 4 k := a2
  have a3 : f 7 k = g 5 k := a3
  have vk : vp_in (nI k) 5 := vi_nI (by omega) (by omega)
  have G : ∀ r : Int32, (p1 = 0 → r = g 3 k) → (p1 = 1 → r = g 4 k) → (p1 = 2 → r = g 5 k) → (¬ p1 = 0 → ¬ p1 = 1 → ¬ p1 = 2 → r = -2) → Q_X5_ofStep (nI k) p1 g u (fun r' => r = r' ∧ Rel0 f v g u) := by
    intro r r0 r1 r2 r3
    refine q5_isStep1 P2 hk (yes1' ?_)
    rw [nI_clamp (by omega)]
    exact ⟨fun c0 => ⟨fun c1 => ⟨fun c2 => ⟨r3 c0 c1 c2, h⟩, fun c2 => ⟨vk, r2 c2, h⟩⟩, fun c1 => ⟨vk, r1 c1, h⟩⟩, fun c0 => ⟨vk, r0 c0, h⟩⟩
  rw [nI_clamp (by omega), a1, a2, a3]
  exact ⟨fun c => ⟨vk, G _ (fun _ => rfl) (fun z => absurd (c.symm.trans z) (by decide)) (fun z => absurd (c.symm.trans z) (by decide)) (fun z => absurd c z)⟩, fun c0 => ⟨fun c => ⟨vk, G _ (fun z => absurd z c0) (fun _ => rfl) (fun z => absurd (c.symm.trans z) (by decide)) (fun _ z => absurd c z)⟩, fun c1 => ⟨fun c => ⟨vk, G _ (fun z => absurd z c0) (fun z => absurd z c1) (fun _ => rfl) (fun _ _ z => absurd c z)⟩, fun c2 => G _ (fun z => absurd z c0) (fun z => absurd z c1) (fun z => absurd z c2) (fun _ _ _ => rfl)⟩⟩⟩
theorem op_output (p0 p1 : Int32) (f : FF) (v : VV) (g : FF) (u : VV) (h : Rel0 f v g u) : Q_X4_output p0 p1 f v (fun r f1 v1 => Q_X5_output p0 p1 g u (fun r' g1 u1 => r = r' ∧ Rel0 f1 v1 g1 u1)) := by
  obtain ⟨n, t, P1, P2, P3, P4, P5⟩ := h.2.1
  have hn := P1.1
  have e2 : u 2 = nI n := P2.2.2.1
  unfold Q_X4_output
  refine q_isWithin (fun a b => ⟨Or.inr rfl, yes1 ?_⟩) (fun a => ⟨Or.inl rfl, no0 (q5_within0 a (no0 ⟨rfl, h⟩))⟩)
  refine q_isWithin (fun a' b' => ⟨Or.inr rfl, yes1' ?_⟩) (fun a' => ⟨Or.inl rfl, no0' (q5_within1 a b (yes1 (q5_within0 a' (no0' ⟨rfl, h⟩))))⟩)
  refine q_isEmpty P1 (fun e => yes1 (q5_within1 a b (yes1 (q5_within1 a' b' (yes1' ⟨fun c => absurd (by rw [e2, e]; rfl) c, fun _ => ⟨rfl, h⟩⟩))))) (fun e => no0 (q_run P1 (fun f' hf' _ f10 ef v11 ev => ?_)))
  refine q5_within1 a b (yes1 (q5_within1 a' b' (yes1' ⟨fun _ => q5_plainRun P2 (by omega) (fun g' hs _ => ⟨ag_out P4 p0 p1, ?_⟩), fun c => ?_⟩)))
  · exact h.fr ((back_fb (Sm.of7 hf') ef ev).1.fc (by decide)) hs.fe
  · rw [e2] at c; exact absurd ((nI_eq (a := n) (b := 0) (by omega) (by omega)).mp c) e
theorem op_trace (f : FF) (v : VV) (g : FF) (u : VV) (h : Rel0 f v g u) : Q_X4_trace f v (fun r => Q_X5_trace g u (fun r' => r = r' ∧ Rel0 f v g u)) := ⟨h.2.2.2.1, h⟩
theorem op_fault (f : FF) (v : VV) (g : FF) (u : VV) (h : Rel0 f v g u) : Q_X4_fault f v (fun r => Q_X5_fault g u (fun r' => r = r' ∧ Rel0 f v g u)) := ⟨h.2.2.2.2, h⟩
theorem Rel0.trace {f : FF} {v : VV} {g : FF} {u : VV} (h : Rel0 f v g u) (x : Int32) : Rel0 f (fu v 1 x) g (fu u 1 x) := by
  obtain ⟨hs, ⟨n, t, p1, p2, p3, p4⟩, ⟨c, r1, r2, r3, r4⟩, ht, hf⟩ := h
  refine ⟨fun k hk => (hs k hk).of rfl (fu_ne (by omega)) (fu_ne (by omega)) rfl rfl (fun _ _ => rfl), ⟨n, t, p1, p2, p3, p4⟩, ⟨c, r1, r2, r3, r4⟩, ?_, hf⟩
  rw [fu_eq, fu_eq]
theorem Rel0.rows {f f' : FF} {v : VV} {g g' : FF} {u : VV} {n t : Nat} (h : Rel0 f v g u) (h1 : ∀ j, j < 5 → f' j = f j) (h2 : ∀ j, j < 3 ∨ j = 16 → g' j = g j) (P1 : PI n t (sb f' 5) (sb v 11)) (P2 : PI n t (sb g' 3) (sb u 2)) (P3 : n = 0 ↔ t = 0) (P4 : Agree n t (sb f' 5) (sb g' 3)) (P5 : VD t (sb f' 5)) : Rel0 f' v g' u := by
  obtain ⟨hs, _, ⟨c, r1, r2, r3, r4⟩, ht, hf⟩ := h
  refine ⟨fun k hk => (hs k hk).of (h1 _ (by omega)) rfl rfl (by rw [h2 0 (by omega)]) (by rw [h2 1 (by omega)]) (fun _ _ => by rw [h2 2 (by omega)]), ⟨n, t, P1, P2, P3, P4, P5⟩, ⟨c, r1, r2, r3, fun i hi => by rw [h1 0 (by omega), h2 16 (by omega)]; exact r4 i hi⟩, ht, hf⟩
theorem upd_ag {p q : Nat → Int32} {m i : Nat} {x : Int32} (h : ∀ k, k < m → p k = q k) : ∀ k, k < m → upd p i x k = upd q i x k := by
  intro k hk
  by_cases e : k = i
  · rw [e, upd_eq, upd_eq]
  · rw [upd_ne e, upd_ne e, h k hk]
theorem op_way (p0 p1 : Int32) (f : FF) (v : VV) (g : FF) (u : VV) (h : Rel0 f v g u) : Q_X4_way p0 p1 f v (fun r f1 v1 => Q_X5_way p0 p1 g u (fun r' g1 u1 => r = r' ∧ Rel0 f1 v1 g1 u1)) := by
  obtain ⟨n, t, P1, P2, P3, P4, P5⟩ := h.2.1
  have hn := P1.1
  refine q_hasStep P1 (fun k hk ek => yes1' ?_) (fun hk => no0' (q5_isStep0 P2 hk (no0' ⟨rfl, h⟩)))
  subst ek
  have vk : vp_in (nI k) 5 := vi_nI (by omega) (by omega)
  refine q_isWithin (fun a b => yes1' ⟨vk, fun x ex => ⟨vk, fun f8 e8 => ?_⟩⟩) (fun a => no0' (q5_isStep1 P2 hk (yes1' (q5_within0 a (no0' ⟨rfl, h⟩)))))
  refine q5_isStep1 P2 hk (yes1' (q5_within1 a b (yes1' ⟨vk, fun x' ex' => ⟨vk, fun g8 eg8 => ⟨?_, ?_⟩⟩⟩)))
  · rw [ex, ex', nI_clamp (by omega)]; exact (P4.1 k hk).1
  · rw [wrN (by omega)] at e8 eg8
    have a5 : f8 5 = upd (f 5) k p1 := by rw [e8, fu_eq]
    have b3 : g8 3 = upd (g 3) k p1 := by rw [eg8, fu_eq]
    have ao : ∀ j, j ≠ 5 → f8 j = f j := fun j hj => by rw [e8, fu_ne hj]
    have bo : ∀ j, j ≠ 3 → g8 j = g j := fun j hj => by rw [eg8, fu_ne hj]
    refine h.rows (fun j hj => ao j (by omega)) (fun j hj => bo j (by omega)) (P1.rows2 (ao 6 (by decide)) (ao 7 (by decide)) rfl rfl) (P2.rows2 (bo 4 (by decide)) (bo 5 (by decide)) rfl rfl) P3 ⟨fun i hi => ⟨?_, ?_, ?_⟩, fun j hj => ⟨?_, ?_, ?_, ?_⟩⟩ (P5.of (ao 8 (by decide)) (ao 9 (by decide)))
    · show f8 5 i = g8 3 i
      rw [a5, b3]; exact upd_ag (fun k hk => (P4.1 k hk).1) i hi
    · show f8 6 i = g8 4 i
      rw [ao 6 (by decide), bo 4 (by decide)]; exact (P4.1 i hi).2.1
    · show f8 7 i = g8 5 i
      rw [ao 7 (by decide), bo 5 (by decide)]; exact (P4.1 i hi).2.2
    · show f8 8 j = g8 6 j
      rw [ao 8 (by decide), bo 6 (by decide)]; exact (P4.2 j hj).1
    · show f8 9 j = g8 7 j
      rw [ao 9 (by decide), bo 7 (by decide)]; exact (P4.2 j hj).2.1
    · show f8 10 j = g8 8 j
      rw [ao 10 (by decide), bo 8 (by decide)]; exact (P4.2 j hj).2.2.1
    · show f8 11 j = g8 9 j
      rw [ao 11 (by decide), bo 9 (by decide)]; exact (P4.2 j hj).2.2.2
theorem op_time (p0 p1 : Int32) (f : FF) (v : VV) (g : FF) (u : VV) (h : Rel0 f v g u) : Q_X4_time p0 p1 f v (fun r f1 v1 => Q_X5_time p0 p1 g u (fun r' g1 u1 => r = r' ∧ Rel0 f1 v1 g1 u1)) := by
  obtain ⟨n, t, P1, P2, P3, P4, P5⟩ := h.2.1
  have ht := P1.2.1
  refine q_hasTest P1 (fun k hk ek => yes1' ?_) (fun hk => no0' (q5_isTest0 P2 hk (no0' ⟨rfl, h⟩)))
  subst ek
  have vk : vp_in (nI k) 7 := vi_nI (by omega) (by omega)
  refine q_isWithin (fun a b => ⟨Or.inr rfl, yes1' ⟨vk, fun x ex => ⟨vk, fun f8 e8 => ?_⟩⟩⟩) (fun a => ⟨Or.inl rfl, no0' (q5_isTest1 P2 hk (yes1' (q5_within0 a (no0' ⟨rfl, h⟩))))⟩)
  refine q5_isTest1 P2 hk (yes1' (q5_within1 a b (yes1' ⟨vk, fun x' ex' => ⟨vk, fun g8 eg8 => ⟨?_, ?_⟩⟩⟩)))
  · rw [ex, ex', nI_clamp (by omega)]; exact (P4.2 k hk).2.1
  · rw [wrN (by omega)] at e8 eg8
    obtain ⟨τ, eτ, hτ, hτ'⟩ := rngI (a := 1) (b := 9) (by omega) a b (by omega)
    have a9 : f8 9 = upd (f 9) k p1 := by rw [e8, fu_eq]
    have b7 : g8 7 = upd (g 7) k p1 := by rw [eg8, fu_eq]
    have ao : ∀ j, j ≠ 9 → f8 j = f j := fun j hj => by rw [e8, fu_ne hj]
    have bo : ∀ j, j ≠ 7 → g8 j = g j := fun j hj => by rw [eg8, fu_ne hj]
    refine h.rows (fun j hj => ao j (by omega)) (fun j hj => bo j (by omega)) (P1.rows2 (ao 6 (by decide)) (ao 7 (by decide)) rfl rfl) (P2.rows2 (bo 4 (by decide)) (bo 5 (by decide)) rfl rfl) P3 ⟨fun i hi => ⟨?_, ?_, ?_⟩, fun j hj => ⟨?_, ?_, ?_, ?_⟩⟩ (fun j hj => ⟨?_, ?_⟩)
    · show f8 5 i = g8 3 i
      rw [ao 5 (by decide), bo 3 (by decide)]; exact (P4.1 i hi).1
    · show f8 6 i = g8 4 i
      rw [ao 6 (by decide), bo 4 (by decide)]; exact (P4.1 i hi).2.1
    · show f8 7 i = g8 5 i
      rw [ao 7 (by decide), bo 5 (by decide)]; exact (P4.1 i hi).2.2
    · show f8 8 j = g8 6 j
      rw [ao 8 (by decide), bo 6 (by decide)]; exact (P4.2 j hj).1
    · show f8 9 j = g8 7 j
      rw [a9, b7]; exact upd_ag (fun k hk => (P4.2 k hk).2.1) j hj
    · show f8 10 j = g8 8 j
      rw [ao 10 (by decide), bo 8 (by decide)]; exact (P4.2 j hj).2.2.1
    · show f8 11 j = g8 9 j
      rw [ao 11 (by decide), bo 9 (by decide)]; exact (P4.2 j hj).2.2.2
    · show ∃ κ, κ < 3 ∧ f8 8 j = nI κ
      rw [ao 8 (by decide)]; exact (P5 j hj).1
    · show ∃ τ, τ < 10 ∧ f8 9 j = nI τ
      rw [a9]
      by_cases e : j = k
      · rw [e, upd_eq]; exact ⟨τ, by omega, eτ⟩
      · rw [upd_ne e]; exact (P5 j hj).2
theorem op_aim (p0 p1 p2 : Int32) (f : FF) (v : VV) (g : FF) (u : VV) (h : Rel0 f v g u) : Q_X4_aim p0 p1 p2 f v (fun r f1 v1 => Q_X5_aim p0 p1 p2 g u (fun r' g1 u1 => r = r' ∧ Rel0 f1 v1 g1 u1)) := by
  obtain ⟨n, t, P1, P2, P3, P4, P5⟩ := h.2.1
  have ht := P1.2.1
  refine q_hasTest P1 (fun k hk ek => yes1' ?_) (fun hk => no0' (q5_isTest0 P2 hk (no0' ⟨rfl, h⟩)))
  subst ek
  have vk : vp_in (nI k) 7 := vi_nI (by omega) (by omega)
  refine q_isWithin (fun a b => ⟨Or.inr rfl, yes1 ?_⟩) (fun a => ⟨Or.inl rfl, no0 (q5_isTest1 P2 hk (yes1' (q5_within0 a (no0 ⟨rfl, h⟩))))⟩)
  refine q_isWithin (fun a' b' => ⟨Or.inr rfl, yes1' ⟨vk, vk, fun x ex => ⟨vk, fun f7 e7 => ⟨vk, fun f8 e8 => ?_⟩⟩⟩⟩) (fun a' => ⟨Or.inl rfl, no0' (q5_isTest1 P2 hk (yes1' (q5_within1 a b (yes1 (q5_within0 a' (no0' ⟨rfl, h⟩))))))⟩)
  refine q5_isTest1 P2 hk (yes1' (q5_within1 a b (yes1 (q5_within1 a' b' (yes1' ⟨vk, vk, fun x' ex' => ⟨vk, fun g7 eg7 => ⟨vk, fun g8 eg8 => ⟨?_, ?_⟩⟩⟩⟩)))))
  · have h1 : f 10 k = g 8 k := (P4.2 k hk).2.2.1
    have h2 : f 11 k = g 9 k := (P4.2 k hk).2.2.2
    rw [ex, ex', nI_clamp (by omega), h1, h2]
  · rw [wrN (by omega)] at e7 e8 eg7 eg8
    have a10 : f8 10 = upd (f 10) k p1 := by rw [e8, fu_ne (by decide), e7, fu_eq]
    have a11 : f8 11 = upd (f 11) k p2 := by rw [e8, fu_eq, e7, fu_ne (by decide)]
    have b8 : g8 8 = upd (g 8) k p1 := by rw [eg8, fu_ne (by decide), eg7, fu_eq]
    have b9 : g8 9 = upd (g 9) k p2 := by rw [eg8, fu_eq, eg7, fu_ne (by decide)]
    have ao : ∀ j, j ≠ 10 → j ≠ 11 → f8 j = f j := fun j hj hj2 => by rw [e8, fu_ne hj2, e7, fu_ne hj]
    have bo : ∀ j, j ≠ 8 → j ≠ 9 → g8 j = g j := fun j hj hj2 => by rw [eg8, fu_ne hj2, eg7, fu_ne hj]
    refine h.rows (fun j hj => ao j (by omega) (by omega)) (fun j hj => bo j (by omega) (by omega)) (P1.rows2 (ao 6 (by decide) (by decide)) (ao 7 (by decide) (by decide)) rfl rfl) (P2.rows2 (bo 4 (by decide) (by decide)) (bo 5 (by decide) (by decide)) rfl rfl) P3 ⟨fun i hi => ⟨?_, ?_, ?_⟩, fun j hj => ⟨?_, ?_, ?_, ?_⟩⟩ (P5.of (ao 8 (by decide) (by decide)) (ao 9 (by decide) (by decide)))
    · show f8 5 i = g8 3 i
      rw [ao 5 (by decide) (by decide), bo 3 (by decide) (by decide)]; exact (P4.1 i hi).1
    · show f8 6 i = g8 4 i
      rw [ao 6 (by decide) (by decide), bo 4 (by decide) (by decide)]; exact (P4.1 i hi).2.1
    · show f8 7 i = g8 5 i
      rw [ao 7 (by decide) (by decide), bo 5 (by decide) (by decide)]; exact (P4.1 i hi).2.2
    · show f8 8 j = g8 6 j
      rw [ao 8 (by decide) (by decide), bo 6 (by decide) (by decide)]; exact (P4.2 j hj).1
    · show f8 9 j = g8 7 j
      rw [ao 9 (by decide) (by decide), bo 7 (by decide) (by decide)]; exact (P4.2 j hj).2.1
    · show f8 10 j = g8 8 j
      rw [a10, b8]; exact upd_ag (fun k hk => (P4.2 k hk).2.2.1) j hj
    · show f8 11 j = g8 9 j
      rw [a11, b9]; exact upd_ag (fun k hk => (P4.2 k hk).2.2.2) j hj
end O1
