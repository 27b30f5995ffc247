theorem b63 : ∀ i, i < 32 → bt 63 i = decide (i < 6) := by decide +kernel
theorem six : ∀ b0 b1 b2 b3 b4 b5 : Bool, ∃ k : Nat, k < 64 ∧ ((((((0 : Int32) ||| (if b0 = true then (1 : Int32) <<< (nI 0 &&& 31) else 0)) ||| (if b1 = true then (1 : Int32) <<< (nI 1 &&& 31) else 0)) ||| (if b2 = true then (1 : Int32) <<< (nI 2 &&& 31) else 0)) ||| (if b3 = true then (1 : Int32) <<< (nI 3 &&& 31) else 0)) ||| (if b4 = true then (1 : Int32) <<< (nI 4 &&& 31) else 0)) ||| (if b5 = true then (1 : Int32) <<< (nI 5 &&& 31) else 0) = nI k := by decide +kernel
theorem and63 (y : Int32) : ∃ k, k < 64 ∧ y &&& 63 = nI k := by
  have e : y &&& 63 = bs (fun i => bt y i) 6 := by
    apply b_ext
    intro i hi
    rw [b_and, b63 i hi, bt_bs _ 6 (by omega) i hi, Bool.and_comm]
  rw [e]
  exact six (bt y 0) (bt y 1) (bt y 2) (bt y 3) (bt y 4) (bt y 5)
theorem pcnt_rng (x : Int32) : ∃ k, k < 64 ∧ pcnt x = nI k := and63 _
section O5
variable {n t : Nat} {g : FF} {u : VV} {posf : Int32 → FF → VV → Prop}
/-- the reference's HARDEST of the first k -/
def hd5 (B : Nat → Int32) : Nat → Option Nat
  | 0 => none
  | k + 1 => if B k = 0 then hd5 B k else match hd5 B k with
    | none => some k
    | some a => if sz (B a) ≤ sz (B k) then some a else some k
theorem hd5_lt {B : Nat → Int32} : ∀ {k a : Nat}, hd5 B k = some a → a < k
  | 0, a, h => by simp [hd5] at h
  | k + 1, a, h => by
    rw [hd5] at h
    split at h
    · have := hd5_lt h; omega
    · split at h
      · cases h; omega
      · rename_i a' e
        have := hd5_lt e
        split at h
        · cases h; omega
        · cases h; omega
theorem oI_9' {a : Nat} (ha : a < 20) : ¬ oI (some a) = -9 := by
  have := (show ∀ a, a < 20 → ¬ nI a = -9 by decide +kernel) a ha
  exact this
theorem q5_hd_loop {K : Int32 → Int32 → FF → VV → Prop} (hP : PI n t (sb g 3) (sb u 2)) (hK : ∀ x, K (oI (hd5 (g 13) (4 * n))) x g u) :
    ∀ (d k : Nat), k + d = 4 * n → Q_X5_hardest_L19 K (d + 1) (oI (hd5 (g 13) k)) (nI k) g u := by
  have hn := hP.1
  intro d
  induction d with
  | zero =>
    intro k hk
    rw [Q_X5_hardest_L19]
    refine q5_mutants hP ?_
    rw [show k = 4 * n by omega]
    exact ⟨fun _ => hK _, fun c => absurd (Int32.le_refl _) c⟩
  | succ d ih =>
    intro k hk
    rw [Q_X5_hardest_L19]
    have := ih (k + 1) (by omega)
    rw [hd5] at this
    have vk : vp_in (nI k) 20 := vi_nI (by omega) (by omega)
    refine q5_mutants hP ⟨fun c => absurd ((le_nI (by omega) (by omega)).mp c) (by omega), fun _ => ⟨vk, ?_⟩⟩
    rw [nI_clamp (by omega)]
    refine ⟨fun c x e => ?_, fun c => ?_⟩
    · rw [e, nI_1]; rw [if_pos c] at this; exact this
    · rw [if_neg c] at this
      match hm : hd5 (g 13) k with
      | none =>
        rw [hm] at this
        exact ⟨fun _ x e => by rw [e, nI_1]; exact this, fun c => absurd rfl c⟩
      | some a =>
        rw [hm] at this
        have ha := hd5_lt hm
        refine ⟨fun c => absurd c (oI_9' (by omega)), fun _ => ⟨vk, q5_size ⟨vi_nI (by omega) (by omega), ?_⟩⟩⟩
        show Q_X5_size (g 13 (nI a).toNatClampNeg) _
        rw [nI_clamp (by omega)]
        refine q5_size ⟨fun c3 x e => ?_, fun c3 x e => ?_⟩
        · rw [e, nI_1]; simp only [c3, if_true] at this; exact this
        · rw [e, nI_1]; simp only [c3, if_false] at this; exact this
theorem hd5_cong {B B' : Nat → Int32} : ∀ {k : Nat}, (∀ q, q < k → B q = B' q) → hd5 B k = hd5 B' k
  | 0, _ => rfl
  | k + 1, h => by
    rw [hd5, hd5, hd5_cong (fun q hq => h q (by omega)), h k (by omega)]
    split
    · rfl
    · split
      · rfl
      · rename_i a e
        rw [h a (by have := hd5_lt e; omega)]
theorem n0 {n : Nat} {x : Int32} (hn : n ≤ 5) (e : x = nI n) : x = 0 ↔ n = 0 := by rw [e]; exact nI_eq (a := n) (b := 0) (by omega) (by omega)
theorem q5_hardest (hP : PI n t (sb g 3) (sb u 2)) (hn : n ≠ 0) (h : ∀ g', FE g u g' u → posf (oI (hd5 (kls g n t) (4 * n))) g' u) : Q_X5_hardest g u posf := by
  refine ⟨fun _ => q5_findKillers hP (fun g' hs hB => ⟨4 * n + 1, ?_⟩), fun c => absurd ((n0 hP.1 hP.2.2.1).mp c) hn⟩
  have hP' : PI n t (sb g' 3) (sb u 2) := hP.rows (fun j hj => hs.pv j (by omega)) rfl rfl
  refine q5_hd_loop hP' (fun _ => ?_) (4 * n) 0 (by omega)
  rw [hd5_cong hB]; exact h g' hs.fe
theorem kls_bit {q i : Nat} (ht : t ≤ 7) (h : bt (kls g n t q) i = true) : i < t := by
  rcases Nat.lt_or_ge i 32 with hi | hi
  · unfold kls at h
    rw [bt_bs _ t (by omega) i hi, Bool.and_eq_true, decide_eq_true_iff] at h
    exact h.1
  · rw [b_big hi] at h; exact absurd h (by decide)
end O5
theorem op_hardest (f : FF) (v : VV) (g : FF) (u : VV) (h : Rel0 f v g u) : Q_X4_hardest f v (fun r f1 v1 => Q_X5_hardest g u (fun r' g1 u1 => True ∧ Rel0 f1 v1 g1 u1)) := by
  obtain ⟨n, t, P1, P2, P3, P4, P5⟩ := h.2.1
  refine q_isEmpty P1 (fun e => yes1 ⟨fun c => absurd ((n0 P2.1 P2.2.2.1).mpr e) c, fun _ => ⟨trivial, h⟩⟩) (fun e => no0 (q_killsNow P1 (fun f' v' hc hK => q_hardestMutant hK.1 ?_)))
  exact q5_hardest P2 e (fun g' he => ⟨trivial, h.fr hc he⟩)
theorem op_log (p0 : Int32) (f : FF) (v : VV) (g : FF) (u : VV) (h : Rel0 f v g u) : Q_X4_log p0 f v (fun r f1 v1 => Q_X5_log p0 g u (fun r' g1 u1 => True ∧ Rel0 f1 v1 g1 u1)) := by
  obtain ⟨n, t, P1, P2, P3, P4, P5⟩ := h.2.1
  have ht := P1.2.1
  refine q_hasTest P1 (fun k hk ek => yes1' ?_) (fun hk => no0' (q5_isTest0 P2 hk (no0' ⟨trivial, h⟩)))
  subst ek
  have vk : vp_in (nI k) 7 := vi_nI (by omega) (by omega)
  have e8 : f 8 k = g 6 k := (P4.2 k hk).1
  refine ⟨vk, ?_⟩
  have st : ∀ (v2 : VV) (u2 : VV) (x : Int32), v2 = fu v 1 (31 * v 1 + x) → u2 = fu u 1 (31 * u 1 + x) → Rel0 f v2 g u2 := by
    intro v2 u2 x e1 e2
    rw [e1, e2, show v 1 = u 1 from h.2.2.2.1]
    exact h.trace _
  rw [nI_clamp (by omega), e8]
  refine ⟨fun c v2 ev2 => ?_, fun c v2 ev2 => ?_⟩
  · have P1' : PI n t (sb f 5) (sb v2 11) := P1.rows (fun _ _ => rfl) (by rw [sb_add, ev2, fu_ne (by decide)]; rfl) (by rw [sb_add, ev2, fu_ne (by decide)]; rfl)
    refine q_killedByTest P1' hk (fun f' hf' f7 ef v8 ev => q_bitCount ?_)
    refine q5_isTest1 P2 hk (yes1' ⟨vk, ?_⟩)
    rw [nI_clamp (by omega)]
    refine ⟨fun _ u2 eu2 => ⟨vk, fun _ => ?_, fun z => absurd z c⟩, fun z => absurd z c⟩
    have P2' : PI n t (sb g 3) (sb u2 2) := P2.rows (fun _ _ => rfl) (by rw [sb_add, eu2, fu_ne (by decide)]; rfl) (by rw [sb_add, eu2, fu_ne (by decide)]; rfl)
    refine q5_findKillers P2' (fun g' hs hB => ?_)
    have P2'' : PI n t (sb g' 3) (sb u2 2) := P2'.rows (fun j hj => hs.pv j (by omega)) rfl rfl
    exact q5_killedBy P2'' (by omega) (q5_size ⟨trivial, (st v2 u2 4 ev2 eu2).fr ((back_fb hf' ef ev).1.fc (by decide)) hs.fe⟩)
  · refine q5_isTest1 P2 hk (yes1' ⟨vk, ?_⟩)
    rw [nI_clamp (by omega)]
    exact ⟨fun z => absurd c z, fun _ u2 eu2 => ⟨vk, fun z => absurd c z, fun _ => ⟨trivial, st v2 u2 5 ev2 eu2⟩⟩⟩
theorem op_many (p0 : Int32) (f : FF) (v : VV) (g : FF) (u : VV) (h : Rel0 f v g u) : Q_X4_many p0 f v (fun r f1 v1 => Q_X5_many p0 g u (fun r' g1 u1 => True ∧ Rel0 f1 v1 g1 u1)) := by
  obtain ⟨n, t, P1, P2, P3, P4, P5⟩ := h.2.1
  have fin : ∀ (f1 : FF) (v1 : VV), FC f v f1 v1 → Q_X5_many p0 g u (fun r' g1 u1 => True ∧ Rel0 f1 v1 g1 u1) := by
    intro f1 v1 hc
    have z : True ∧ Rel0 f1 v1 g u := ⟨trivial, h.fr hc FE.rf⟩
    refine ⟨fun _ => z, fun _ => ⟨fun _ => z, fun _ => ⟨fun _ => q5_mutants P2 z, fun _ => ⟨fun _ => q5_findKillers P2 (fun g' hs hB => q5_killed (P2.rows (fun j hj => hs.pv j (by omega)) rfl rfl) ⟨trivial, h.fr hc hs.fe⟩), fun _ => ⟨fun _ => q5_manyEqual P2 (fun g' hs => ⟨trivial, h.fr hc hs.fe⟩), fun _ => ⟨fun _ => z, fun _ => z⟩⟩⟩⟩⟩⟩
  refine ⟨fun _ => fin _ _ FC.rf, fun _ => ⟨fun _ => fin _ _ FC.rf, fun _ => ⟨fun _ => q_mutants P1 (fin _ _ FC.rf), fun _ => ⟨fun _ => q_killsNow P1 (fun f' v' hc hK => q_bitCount (fin _ _ hc)), fun _ => ⟨fun _ => q_mutants P1 (q_unequalMutants P1 (fun f' hf' => q_bitCount (fun f14 ef v15 ev => fin _ _ ((back_fb hf' ef ev).1.fc (by decide))))), fun _ => ⟨fun _ => fin _ _ FC.rf, fun _ => fin _ _ FC.rf⟩⟩⟩⟩⟩⟩
theorem op_cover (p0 : Int32) (f : FF) (v : VV) (g : FF) (u : VV) (h : Rel0 f v g u) : Q_X4_cover p0 f v (fun r f1 v1 => Q_X5_cover p0 g u (fun r' g1 u1 => True ∧ Rel0 f1 v1 g1 u1)) := by
  obtain ⟨n, t, P1, P2, P3, P4, P5⟩ := h.2.1
  refine q_isWithin (fun a b => yes1' ?_) (fun a => no0' (q5_within0 a (no0' ⟨trivial, h⟩)))
  refine q_isEmpty P1 (fun e => yes1 (q5_within1 a b (yes1' ⟨fun c => absurd ((n0 P2.1 P2.2.2.1).mpr e) c, fun _ => ⟨trivial, h⟩⟩))) (fun e => no0 (q_killsNow P1 (fun f' v' hc hK => q_light hK ?_)))
  have fin : Q_X5_cover p0 g u (fun r' g1 u1 => True ∧ Rel0 f' v' g1 u1) := by
    refine q5_within1 a b (yes1' ⟨fun _ => q5_findKillers P2 (fun g' hs hB => ?_), fun c => absurd ((n0 P2.1 P2.2.2.1).mp c) e⟩)
    have P2' : PI n t (sb g' 3) (sb u 2) := P2.rows (fun j hj => hs.pv j (by omega)) rfl rfl
    have z : True ∧ Rel0 f' v' g' u := ⟨trivial, h.fr hc hs.fe⟩
    exact q5_findCover P2' ⟨fun _ => ⟨fun _ => q5_size z, fun _ => q5_weightOfSet P2' z⟩, fun _ => z⟩
  exact ⟨fun _ => fin, fun _ => ⟨fun _ => q_wS hK fin, fun _ => q_bitCount fin⟩⟩
theorem op_score (p0 : Int32) (f : FF) (v : VV) (g : FF) (u : VV) (h : Rel0 f v g u) : Q_X4_score p0 f v (fun r f1 v1 => Q_X5_score p0 g u (fun r' g1 u1 => True ∧ Rel0 f1 v1 g1 u1)) := by
  obtain ⟨n, t, P1, P2, P3, P4, P5⟩ := h.2.1
  have hn := P1.1
  refine q_isWithin (fun a b => yes1 ?_) (fun a => no0 (q5_within0 a (no0 ⟨trivial, h⟩)))
  refine q_isEmpty P1 (fun e => yes1 (q5_within1 a b (yes1 ⟨fun c => absurd ((n0 P2.1 P2.2.2.1).mpr e) c, fun _ => ⟨trivial, h⟩⟩))) (fun e => no0 (q_killsNow P1 (fun f' v' hc hK => q_bitCount ?_)))
  have P1' : PI n t (sb f' 5) (sb v' 11) := P1.rows (fun j hj => hc.1 (5 + j) (by omega)) (hc.2 11 (by decide)) (hc.2 12 (by decide))
  refine q_unequalMutants P1' (fun f2 hf2 f12 ef v13 ev => q_bitCount ?_)
  have hc2 : FC f v f12 v13 := hc.tr ((back_fb hf2 ef ev).1.fc (by decide))
  obtain ⟨ka, hka, ea⟩ := pcnt_rng (v' 21)
  obtain ⟨kb, hkb, eb⟩ := pcnt_rng (bs (anyK (sb f' 5) n 100) (4 * n))
  rw [ea, eb]
  refine q_share (by omega) (by omega) ?_
  refine q5_within1 a b (yes1 ⟨fun _ => q5_findKillers P2 (fun g' hs hB => ?_), fun c => absurd ((n0 P2.1 P2.2.2.1).mp c) e⟩)
  have P2' : PI n t (sb g' 3) (sb u 2) := P2.rows (fun j hj => hs.pv j (by omega)) rfl rfl
  refine q5_mutants P2' (q5_manyEqual P2' (fun g2 hs2 x ex => ?_))
  have hct := fb_ct_le (eqM (sb g' 3) n) (4 * n)
  rw [nI_sub hct] at ex
  have P2'' : PI n t (sb g2 3) (sb u 2) := P2'.rows (fun j hj => hs2.pv j (by omega)) rfl rfl
  have z : True ∧ Rel0 f12 v13 g2 u := ⟨trivial, h.fr hc2 (hs.fe.tr hs2.fe)⟩
  refine ⟨fun c => q5_killed P2'' ?_, fun _ => z⟩
  have hk := fb_ct_le (fun q => decide (¬ g2 13 q = 0)) (4 * n)
  rw [ex, i2l (by omega), i2l (by omega)]
  refine q5_inLeastTerms (by omega) (by omega) ?_ z
  apply Nat.pos_of_ne_zero
  intro z0
  exact c (by rw [ex, z0]; rfl)
theorem op_choose (p0 p1 : Int32) (f : FF) (v : VV) (g : FF) (u : VV) (h : Rel0 f v g u) : Q_X4_choose p0 p1 f v (fun r f1 v1 => Q_X5_choose p0 p1 g u (fun r' g1 u1 => True ∧ Rel0 f1 v1 g1 u1)) := by
  obtain ⟨n, t, P1, P2, P3, P4, P5⟩ := h.2.1
  have hn := P1.1
  have ht := P1.2.1
  have ru : ∀ p : Int32, (10 ≤ p ∧ p ≤ 16) → ∃ k, k < 7 ∧ p - 10 = nI k := by
    rintro p ⟨a, b⟩
    obtain ⟨k, rfl, h1, h2⟩ := rngI (a := 10) (b := 16) (by omega) a b (by omega)
    exact ⟨k - 10, by omega, by rw [show (10 : Int32) = nI 10 from rfl, nI_sub h1]⟩
  have fin : ∀ (f1 : FF) (v1 : VV), FC f v f1 v1 → (0 ≤ p0 ∧ p0 ≤ 2) → n ≠ 0 → ((10 ≤ p1 ∧ p1 ≤ 16) ∨ (0 ≤ p1 ∧ p1 ≤ 1)) → Q_X5_choose p0 p1 g u (fun r' g1 u1 => True ∧ Rel0 f1 v1 g1 u1) := by
    intro f1 v1 hc h0 e hp
    have body : Q_X5_findKillers g u (fun f_7 v_8 => Q_X5_findChoices p0 f_7 v_8 (fun r_9 f_10 v_11 => (p1 < (10 : Int32) → ((¬ p1 = 0 → Q_X5_weightOfSet r_9 f_10 v_11 (fun r_14 => (True ∧ Rel0 f1 v1 f_10 v_11))) ∧ (p1 = 0 → (True ∧ Rel0 f1 v1 f_10 v_11)))) ∧ (¬ p1 < (10 : Int32) → (((v_11 7) ≤ (p1 - (10 : Int32)) → (True ∧ Rel0 f1 v1 f_10 v_11)) ∧ (¬ (v_11 7) ≤ (p1 - (10 : Int32)) → (vp_in (p1 - (10 : Int32)) 7 ∧ (True ∧ Rel0 f1 v1 f_10 v_11))))))) := by
      refine q5_findKillers P2 (fun g' hs hB => ?_)
      have P2' : PI n t (sb g' 3) (sb u 2) := P2.rows (fun j hj => hs.pv j (by omega)) rfl rfl
      refine q5_findChoices P2' rfl (fun q hq i hi => by rw [hB q hq] at hi; exact kls_bit ht hi) (fun c g2 u2 a1 a2 a3 a4 a5 a6 => ?_)
      have P2'' : PI n t (sb g2 3) (sb u2 2) := P2'.rows (fun j hj => a5 (3 + j) (by omega)) (a6 2 (by decide)) (a6 3 (by decide))
      have z : True ∧ Rel0 f1 v1 g2 u2 := ⟨trivial, h.fr hc (hs.fe.tr ⟨fun j hj => a5 j (by omega), fun i hi => a6 i (by omega)⟩)⟩
      refine ⟨fun _ => ⟨fun _ => q5_weightOfSet P2'' z, fun _ => z⟩, fun c1 => ⟨fun _ => z, fun _ => ⟨?_, z⟩⟩⟩
      rcases hp with hp | hp
      · obtain ⟨k, hk, ek⟩ := ru p1 hp
        rw [ek]; exact vi_nI hk (by omega)
      · exact absurd (Int32.lt_of_le_of_lt hp.2 (by decide)) c1
    have nz : ¬ u 2 = 0 := fun c => e ((n0 P2.1 P2.2.2.1).mp c)
    refine q5_within1 h0.1 h0.2 (yes1 (q5_within (fun a b => yes1' ⟨fun _ => body, fun c => absurd c nz⟩) (fun a => no0' ?_)))
    rcases hp with hp | hp
    · exact q5_within1 hp.1 hp.2 (yes1' ⟨fun _ => body, fun c => absurd c nz⟩)
    · exact absurd hp a
  have out2 : (¬ (0 ≤ p0 ∧ p0 ≤ 2)) → Q_X5_choose p0 p1 g u (fun r' g1 u1 => True ∧ Rel0 f v g1 u1) := fun hno => q5_within0 hno (no0 ⟨trivial, h⟩)
  have emp : (0 ≤ p0 ∧ p0 ≤ 2) → n = 0 → ((10 ≤ p1 ∧ p1 ≤ 16) ∨ (0 ≤ p1 ∧ p1 ≤ 1)) → Q_X5_choose p0 p1 g u (fun r' g1 u1 => True ∧ Rel0 f v g1 u1) := by
    intro h0 e hp
    have nz : u 2 = 0 := (n0 P2.1 P2.2.2.1).mpr e
    refine q5_within1 h0.1 h0.2 (yes1 (q5_within (fun a b => yes1' ⟨fun c => absurd nz c, fun _ => ⟨trivial, h⟩⟩) (fun a => no0' ?_)))
    rcases hp with hp | hp
    · exact q5_within1 hp.1 hp.2 (yes1' ⟨fun c => absurd nz c, fun _ => ⟨trivial, h⟩⟩)
    · exact absurd hp a
  have main : ∀ r1 : Int32, (0 ≤ p0 ∧ p0 ≤ 2) → n ≠ 0 → ((r1 = 1 ∧ (10 ≤ p1 ∧ p1 ≤ 16)) ∨ (r1 = 0 ∧ (0 ≤ p1 ∧ p1 ≤ 1))) → Q_X4_killsNow f v (fun f_8 v_9 => Q_X0_chooseTests p0 (sb f_8 33) (sb v_9 19) (fun r_10 f_11 v_12 => ∀ f_13 : FF, f_13 = mg f_8 33 4 f_11 → ∀ v_14 : VV, v_14 = mg v_9 19 3 v_12 → ((r1 = 0 → Q_X0_chosenSet r_10 (sb f_13 33) (sb v_14 19) (fun r_16 => (¬ p1 = 0 → Q_X0_weightOf r_16 (sb f_13 33) (sb v_14 19) (fun r_18 => Q_X5_choose p0 p1 g u (fun r' g1 u1 => True ∧ Rel0 f_13 v_14 g1 u1))) ∧ (p1 = 0 → Q_X5_choose p0 p1 g u (fun r' g1 u1 => True ∧ Rel0 f_13 v_14 g1 u1)))) ∧ (¬ r1 = 0 → ((r_10 ≤ (p1 - (10 : Int32)) → Q_X5_choose p0 p1 g u (fun r' g1 u1 => True ∧ Rel0 f_13 v_14 g1 u1)) ∧ (¬ r_10 ≤ (p1 - (10 : Int32)) → (vp_in (p1 - (10 : Int32)) 7 ∧ Q_X5_choose p0 p1 g u (fun r' g1 u1 => True ∧ Rel0 f_13 v_14 g1 u1)))))))) := by
    intro r1 h0 e hp
    refine q_killsNow P1 (fun f' v' hc hK => q_chooseTests hK.1 (fun c f11 hct _ _ hf3 _ f13 e13 v14 e14 => ?_))
    rw [mg_sb] at e14
    subst e14
    have hc3 : FC f v f13 v14 := hc.tr ⟨fun j hj => by rw [e13, mg_out (by omega)], fun _ _ => rfl⟩
    have hfin := fin f13 v14 hc3 h0 e (hp.elim (fun z => Or.inl z.2) (fun z => Or.inr z.2))
    refine ⟨fun _ => q_chosenSet (by omega) ⟨fun _ => q_weightOf hK.1 hfin, fun _ => hfin⟩, fun c1 => ⟨fun _ => hfin, fun _ => ⟨?_, hfin⟩⟩⟩
    rcases hp with hp | hp
    · obtain ⟨k, hk, ek⟩ := ru p1 hp.2
      rw [ek]; exact vi_nI hk (by omega)
    · exact absurd hp.1 c1
  refine q_isWithin (fun a b => ?_) (fun a => ?_)
  · refine q_isWithin (fun a' b' => yes1 (yes1' ?_)) (fun a' => no0 (out2 a'))
    exact q_isEmpty P1 (fun e => yes1 (emp ⟨a', b'⟩ e (Or.inl ⟨a, b⟩))) (fun e => no0 (main 1 ⟨a', b'⟩ e (Or.inl ⟨rfl, a, b⟩)))
  · refine q_isWithin (fun a' b' => yes1 (no0' ?_)) (fun a' => no0 (out2 a'))
    refine q_isWithin (fun a2 b2 => yes1' ?_) (fun a2 => no0' (q5_within1 a' b' (yes1 (q5_within0 a2 (no0' (q5_within0 a (no0' ⟨trivial, h⟩)))))))
    exact q_isEmpty P1 (fun e => yes1 (emp ⟨a', b'⟩ e (Or.inr ⟨a2, b2⟩))) (fun e => no0 (main 0 ⟨a', b'⟩ e (Or.inr ⟨rfl, a2, b2⟩)))
