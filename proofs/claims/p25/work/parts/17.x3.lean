/-! ===== the text ===== -/
def pkv (c : Nat → Int32) (L p : Nat) : Int32 := if p < L then c p else -1
def wIdx (z : Int32) : Int32 := if z = 97 then 0 else if z = 115 then 1 else if z = 109 then 2 else if z = 103 then 3 else if z = 108 then 4 else -1
def kIdx (z : Int32) : Int32 := if z = 80 then 0 else if z = 83 then 1 else if z = 68 then 2 else -1
def digV (lo hi z : Int32) : Int32 := if lo ≤ z - 48 ∧ z - 48 ≤ hi then z - 48 else -1
def srcV (z : Int32) (k : Nat) : Int32 := if z = 120 then 5 else if z = 121 then 6 else digV 0 (nI k - 1) z
theorem q_isWithin {x lo hi : Int32} {post : Int32 → Prop} (h1 : lo ≤ x → x ≤ hi → post 1) (h0 : ¬ (lo ≤ x ∧ x ≤ hi) → post 0) : Q_X4_isWithin x lo hi post := by
  unfold Q_X4_isWithin
  refine ⟨fun c => h0 (fun z => absurd z.1 (Int32.not_le.mpr c)), fun c => ⟨fun c2 => h0 (fun z => absurd z.2 (Int32.not_le.mpr c2)), fun c2 => h1 (Int32.not_lt.mp c) (Int32.not_lt.mp c2)⟩⟩
/-- the reader's numbers -/
def RI (L p : Nat) (v : VV) : Prop := L ≤ 60 ∧ p ≤ L ∧ v 0 = nI L ∧ v 1 = nI p
/-- the place moved to p, all other numbers as they were -/
def Mv (p : Nat) (v v' : VV) : Prop := v' 1 = nI p ∧ ∀ i, i ≠ 1 → v' i = v i
theorem RI.mv {L p p' : Nat} {v v' : VV} (h : RI L p v) (hm : Mv p' v v') (hp : p' ≤ L) : RI L p' v' := ⟨h.1, hp, by rw [hm.2 0 (by decide)]; exact h.2.2.1, hm.1⟩
theorem Mv.tr {p q : Nat} {v v' v'' : VV} (h : Mv p v v') (h2 : Mv q v' v'') : Mv q v v'' := ⟨h2.1, fun i hi => (h2.2 i hi).trans (h.2 i hi)⟩
section TX
variable {L p : Nat} {f : FF} {v : VV} {post : Int32 → Prop} {posf : Int32 → FF → VV → Prop}
theorem q_peek (h : RI L p v) (hp : post (pkv (f 0) L p)) : Q_X3_peek f v post := by
  obtain ⟨h1, h2, h3, h4⟩ := h
  unfold Q_X3_peek
  rw [h3, h4, nI_clamp (by omega)]
  unfold pkv at hp
  refine ⟨fun c => ?_, fun c => ⟨?_, ?_⟩⟩
  · rw [le_nI (by omega) (by omega)] at c
    rw [if_neg (by omega)] at hp; exact hp
  · rw [le_nI (by omega) (by omega)] at c
    exact vi_nI (by omega) (by omega)
  · rw [le_nI (by omega) (by omega)] at c
    rw [if_pos (by omega)] at hp; exact hp
theorem pkv_lt {c : Nat → Int32} (h : ¬ pkv c L p = -1) : p < L := by
  unfold pkv at h
  split at h
  · assumption
  · exact absurd rfl h
theorem mv_1 (h : RI L p v) : ∀ v' : VV, v' = fu v 1 (v 1 + 1) → Mv (p + 1) v v' := fun v' e => ⟨by rw [e, fu_eq, h.2.2.2, nI_1], fun i hi => by rw [e, fu_ne hi]⟩
theorem q_pass {code : Int32} (hc : ¬ code = -1) (h : RI L p v) (h1 : pkv (f 0) L p = code → p < L → ∀ v', Mv (p + 1) v v' → posf 1 f v') (h0 : ¬ pkv (f 0) L p = code → posf 0 f v) : Q_X3_pass code f v posf := by
  unfold Q_X3_pass
  refine q_peek h ⟨fun c v' ev => h1 c (pkv_lt (c := f 0) (by rw [c]; exact hc)) v' (mv_1 h v' ev), fun c => h0 c⟩
theorem q_pw_loop {K18 K26 : Int32 → FF → VV → Prop} (h : RI L p v) (h1 : ∀ i, i < 5 → pkv (f 0) L p = tcW i → p < L → ∀ v', Mv (p + 1) v v' → K18 (nI i) f v') (h0 : (∀ i, i < 5 → ¬ pkv (f 0) L p = tcW i) → ∀ x, K26 x f v) :
    ∀ (d i : Nat), i + d = 5 → (∀ j, j < i → ¬ pkv (f 0) L p = tcW j) → Q_X3_pickW_L2 K18 K26 (d + 1) (nI i) f v := by
  intro d
  induction d with
  | zero =>
    intro i hi hn
    rw [Q_X3_pickW_L2]
    have : i = 5 := by omega
    subst this
    exact ⟨fun _ => h0 hn _, fun c => absurd (by decide) c⟩
  | succ d ih =>
    intro i hi hn
    rw [Q_X3_pickW_L2]
    refine ⟨fun c => absurd ((le_nI (a := 5) (by omega) (by omega)).mp c) (by omega), fun _ => ⟨vi_nI (by omega) (by omega), ?_⟩⟩
    rw [nI_clamp (by omega)]
    refine q_pass ((by decide : ∀ i, i < 5 → ¬ tcW i = -1) i (by omega)) h (fun e hl v' hv => ⟨fun c => absurd c (by decide), fun _ => h1 i (by omega) e hl v' hv⟩) (fun e => ⟨fun _ x1 ex1 => ?_, fun c => absurd rfl c⟩)
    rw [ex1, nI_1]
    refine ih (i + 1) (by omega) (fun j hj => ?_)
    rcases (show j < i ∨ j = i by omega) with z | z
    · exact hn j z
    · rw [z]; exact e
theorem q_pickW (h : RI L p v) (h1 : ¬ wIdx (pkv (f 0) L p) = -1 → p < L → ∀ v', Mv (p + 1) v v' → posf (wIdx (pkv (f 0) L p)) f v') (h0 : wIdx (pkv (f 0) L p) = -1 → posf (-1) f v) : Q_X3_pickW f v posf := by
  unfold Q_X3_pickW
  refine ⟨6, q_pw_loop h (fun i hi e hl v' hv => ?_) (fun hn _ => h0 ?_) 5 0 (by omega) (fun j hj => by omega)⟩
  · have e2 : wIdx (pkv (f 0) L p) = nI i := by rw [e]; exact (by decide : ∀ i, i < 5 → wIdx (tcW i) = nI i) i hi
    have := h1 (by rw [e2]; exact (by decide : ∀ i, i < 5 → ¬ nI i = -1) i hi) hl v' hv
    rw [e2] at this
    exact this
  · unfold wIdx
    rw [if_neg (show ¬ pkv (f 0) L p = 97 from hn 0 (by decide)), if_neg (show ¬ pkv (f 0) L p = 115 from hn 1 (by decide)), if_neg (show ¬ pkv (f 0) L p = 109 from hn 2 (by decide)), if_neg (show ¬ pkv (f 0) L p = 103 from hn 3 (by decide)), if_neg (show ¬ pkv (f 0) L p = 108 from hn 4 (by decide))]
theorem q_pk_loop {K18 K26 : Int32 → FF → VV → Prop} (h : RI L p v) (h1 : ∀ i, i < 3 → pkv (f 0) L p = tcK i → p < L → ∀ v', Mv (p + 1) v v' → K18 (nI i) f v') (h0 : (∀ i, i < 3 → ¬ pkv (f 0) L p = tcK i) → ∀ x, K26 x f v) :
    ∀ (d i : Nat), i + d = 3 → (∀ j, j < i → ¬ pkv (f 0) L p = tcK j) → Q_X3_pickK_L2 K18 K26 (d + 1) (nI i) f v := by
  intro d
  induction d with
  | zero =>
    intro i hi hn
    rw [Q_X3_pickK_L2]
    have : i = 3 := by omega
    subst this
    exact ⟨fun _ => h0 hn _, fun c => absurd (by decide) c⟩
  | succ d ih =>
    intro i hi hn
    rw [Q_X3_pickK_L2]
    refine ⟨fun c => absurd ((le_nI (a := 3) (by omega) (by omega)).mp c) (by omega), fun _ => ⟨vi_nI (by omega) (by omega), ?_⟩⟩
    rw [nI_clamp (by omega)]
    refine q_pass ((by decide : ∀ i, i < 3 → ¬ tcK i = -1) i (by omega)) h (fun e hl v' hv => ⟨fun c => absurd c (by decide), fun _ => h1 i (by omega) e hl v' hv⟩) (fun e => ⟨fun _ x1 ex1 => ?_, fun c => absurd rfl c⟩)
    rw [ex1, nI_1]
    refine ih (i + 1) (by omega) (fun j hj => ?_)
    rcases (show j < i ∨ j = i by omega) with z | z
    · exact hn j z
    · rw [z]; exact e
theorem q_pickK (h : RI L p v) (h1 : ¬ kIdx (pkv (f 0) L p) = -1 → p < L → ∀ v', Mv (p + 1) v v' → posf (kIdx (pkv (f 0) L p)) f v') (h0 : kIdx (pkv (f 0) L p) = -1 → posf (-1) f v) : Q_X3_pickK f v posf := by
  unfold Q_X3_pickK
  refine ⟨4, q_pk_loop h (fun i hi e hl v' hv => ?_) (fun hn _ => h0 ?_) 3 0 (by omega) (fun j hj => by omega)⟩
  · have e2 : kIdx (pkv (f 0) L p) = nI i := by rw [e]; exact (by decide : ∀ i, i < 3 → kIdx (tcK i) = nI i) i hi
    have := h1 (by rw [e2]; exact (by decide : ∀ i, i < 3 → ¬ nI i = -1) i hi) hl v' hv
    rw [e2] at this
    exact this
  · unfold kIdx
    rw [if_neg (show ¬ pkv (f 0) L p = 80 from hn 0 (by decide)), if_neg (show ¬ pkv (f 0) L p = 83 from hn 1 (by decide)), if_neg (show ¬ pkv (f 0) L p = 68 from hn 2 (by decide))]
theorem q_digit {lo hi : Int32} (hlo : 0 ≤ lo) (h : RI L p v) (h1 : ¬ digV lo hi (pkv (f 0) L p) = -1 → p < L → ∀ v', Mv (p + 1) v v' → posf (digV lo hi (pkv (f 0) L p)) f v') (h0 : digV lo hi (pkv (f 0) L p) = -1 → posf (-1) f v) : Q_X3_digit lo hi f v posf := by
  unfold Q_X3_digit
  refine q_peek h (fun x ex => ?_)
  have hd : digV lo hi (pkv (f 0) L p) = (if lo ≤ x ∧ x ≤ hi then x else -1) := by unfold digV; rw [ex]
  rw [hd] at h1 h0
  refine q_isWithin (fun a b => ⟨fun _ v' ev => ?_, fun c => absurd c (by decide)⟩) (fun a => ⟨fun c => absurd rfl c, fun _ => h0 (if_neg a)⟩)
  rw [if_pos ⟨a, b⟩] at h1
  have h0x : 0 ≤ x := Int32.le_trans hlo a
  refine h1 (fun e => ?_) (pkv_lt (c := f 0) (fun e => ?_)) v' (mv_1 h v' ev)
  · rw [e] at h0x; exact absurd h0x (by decide)
  · rw [ex, e] at h0x; exact absurd h0x (by decide)
theorem q_source {k : Nat} (h : RI L p v) (hk : v 2 = nI k) (h1 : ¬ srcV (pkv (f 0) L p) k = -1 → p < L → ∀ v', Mv (p + 1) v v' → posf (srcV (pkv (f 0) L p) k) f v') (h0 : srcV (pkv (f 0) L p) k = -1 → posf (-1) f v) : Q_X3_source f v posf := by
  unfold Q_X3_source
  unfold srcV at h1 h0
  refine q_pass (by decide) h (fun e hl v' hv => ⟨fun c => absurd c (by decide), fun _ => ?_⟩) (fun e => ⟨fun _ => q_pass (by decide) h (fun e2 hl v' hv => ⟨fun c => absurd c (by decide), fun _ => ?_⟩) (fun e2 => ⟨fun _ => ?_, fun c => absurd rfl c⟩), fun c => absurd rfl c⟩)
  · rw [if_pos e] at h1; exact h1 (by decide) hl v' hv
  · rw [if_neg e, if_pos e2] at h1; exact h1 (by decide) hl v' hv
  · rw [if_neg e, if_neg e2] at h1 h0
    rw [hk]
    exact q_digit (by decide) h h1 h0
/-- where step k's text is not as told: 4, if it is -/
def sf (c : Nat → Int32) (L p k : Nat) : Nat := if ¬ pkv c L p = 59 then 0 else if wIdx (pkv c L (p + 1)) = -1 then 1 else if srcV (pkv c L (p + 2)) k = -1 then 2 else if srcV (pkv c L (p + 3)) k = -1 then 3 else 4
/-- the rows behind a step that was read -/
def StpR (f f' : FF) (k : Nat) (w a b : Int32) : Prop := f' 1 = upd (f 1) k w ∧ f' 2 = upd (f 2) k a ∧ f' 3 = upd (f 3) k b ∧ ∀ i, i ≠ 1 → i ≠ 2 → i ≠ 3 → f' i = f i
theorem q_readStep {k : Nat} (h : RI L p v) (hk : v 2 = nI k) (hk5 : k < 5)
    (h1 : sf (f 0) L p k = 4 → p + 4 ≤ L → ∀ f' v', StpR f f' k (wIdx (pkv (f 0) L (p + 1))) (srcV (pkv (f 0) L (p + 2)) k) (srcV (pkv (f 0) L (p + 3)) k) → v' 1 = nI (p + 4) → v' 2 = nI (k + 1) → (∀ i, i ≠ 1 → i ≠ 2 → v' i = v i) → posf 1 f' v')
    (h0 : ∀ s, sf (f 0) L p k = s → s < 4 → p + s ≤ L → ∀ v', Mv (p + s) v v' → posf 0 f v') : Q_X3_readStep f v posf := by
  unfold Q_X3_readStep
  have Mv0 : Mv p v v := ⟨h.2.2.2, fun _ _ => rfl⟩
  refine q_pass (by decide) h (fun e hl v1 hv1 => ⟨fun _ => ?_, fun c => absurd c (by decide)⟩) (fun e => ⟨fun c => absurd rfl c, fun _ => h0 0 (by unfold sf; rw [if_pos e]) (by decide) (by have := h.2.1; omega) v Mv0⟩)
  have r1 : RI L (p + 1) v1 := h.mv hv1 (by omega)
  refine q_pickW r1 (fun e2 hl2 v2 hv2 => ⟨fun _ => ?_, fun c => absurd c e2⟩) (fun e2 => ⟨fun c => absurd rfl c, fun _ x1 ex1 => h0 1 (by unfold sf; rw [if_neg (not_not_intro e), if_pos e2]) (by decide) (by omega) v1 hv1⟩)
  have r2 : RI L (p + 2) v2 := r1.mv hv2 (by omega)
  have m2 : Mv (p + 2) v v2 := hv1.tr hv2
  have k2 : v2 2 = nI k := by rw [m2.2 2 (by decide)]; exact hk
  refine q_source r2 k2 (fun e3 hl3 v3 hv3 => ⟨fun _ => ?_, fun c => absurd c e3⟩) (fun e3 => ⟨fun c => absurd rfl c, fun _ x1 ex1 => h0 2 (by unfold sf; rw [if_neg (not_not_intro e), if_neg e2, if_pos e3]) (by decide) (by omega) v2 m2⟩)
  have r3 : RI L (p + 3) v3 := r2.mv hv3 (by omega)
  have m3 : Mv (p + 3) v v3 := m2.tr hv3
  have k3 : v3 2 = nI k := by rw [m3.2 2 (by decide)]; exact hk
  refine q_source r3 k3 (fun e4 hl4 v4 hv4 x ex => ?_) (fun e4 x ex => ⟨fun _ => h0 3 (by unfold sf; rw [if_neg (not_not_intro e), if_neg e2, if_neg e3, if_pos e4]) (by decide) (by omega) v3 m3, fun c => absurd rfl c⟩)
  have m4 : Mv (p + 4) v v4 := m3.tr hv4
  have k4 : v4 2 = nI k := by rw [m4.2 2 (by decide)]; exact hk
  rw [k4] at ex
  subst ex
  refine ⟨fun c => absurd c e4, fun _ => ⟨fun _ => ?_, fun c => absurd ((nI_ltI (b := 5) (by omega) (by omega)).mpr hk5) c⟩⟩
  have vk : vp_in (nI k) 5 := vi_nI (by omega) (by omega)
  have ck : (nI k).toNatClampNeg = k := nI_clamp (by omega)
  refine ⟨vk, fun f1 ef1 => ⟨vk, fun f2 ef2 => ⟨vk, fun f3 ef3 v5 ev5 => ?_⟩⟩⟩
  refine h1 (by unfold sf; rw [if_neg (not_not_intro e), if_neg e2, if_neg e3, if_neg e4]) (by omega) f3 v5 ⟨?_, ?_, ?_, fun i i1 i2 i3 => ?_⟩ ?_ ?_ (fun i i1 i2 => ?_)
  · rw [ef3, fu_ne (by decide), ef2, fu_ne (by decide), ef1, fu_eq]; show upd _ (nI k).toNatClampNeg _ = _; rw [ck]
  · rw [ef3, fu_ne (by decide), ef2, fu_eq]; show upd _ (nI k).toNatClampNeg _ = _; rw [ck, ef1, fu_ne (by decide)]
  · rw [ef3, fu_eq]; show upd _ (nI k).toNatClampNeg _ = _; rw [ck, ef2, fu_ne (by decide), ef1, fu_ne (by decide)]
  · rw [ef3, fu_ne i3, ef2, fu_ne i2, ef1, fu_ne i1]
  · rw [ev5, fu_ne (by decide)]; exact m4.1
  · rw [ev5, fu_eq, k4, nI_1]
  · rw [ev5, fu_ne i2]; exact m4.2 i i1
/-- where test j's text is not as told: 5, if it is -/
def tf (c : Nat → Int32) (L p : Nat) : Nat := if ¬ pkv c L p = 44 then 0 else if kIdx (pkv c L (p + 1)) = -1 then 1 else if digV 1 9 (pkv c L (p + 2)) = -1 then 2 else if digV 0 9 (pkv c L (p + 3)) = -1 then 3 else if digV 0 9 (pkv c L (p + 4)) = -1 then 4 else 5
def TstR (f f' : FF) (j : Nat) (kd tm x y : Int32) : Prop := f' 4 = upd (f 4) j kd ∧ f' 5 = upd (f 5) j tm ∧ f' 6 = upd (f 6) j x ∧ f' 7 = upd (f 7) j y ∧ ∀ i, i ≠ 4 → i ≠ 5 → i ≠ 6 → i ≠ 7 → f' i = f i
theorem q_readTest {j : Nat} (h : RI L p v) (hj : v 3 = nI j) (hj7 : j < 7)
    (h1 : tf (f 0) L p = 5 → p + 5 ≤ L → ∀ f' v', TstR f f' j (kIdx (pkv (f 0) L (p + 1))) (digV 1 9 (pkv (f 0) L (p + 2))) (digV 0 9 (pkv (f 0) L (p + 3))) (digV 0 9 (pkv (f 0) L (p + 4))) → v' 1 = nI (p + 5) → v' 3 = nI (j + 1) → (∀ i, i ≠ 1 → i ≠ 3 → v' i = v i) → posf 1 f' v')
    (h0 : ∀ s, tf (f 0) L p = s → s < 5 → p + s ≤ L → ∀ v', Mv (p + s) v v' → posf 0 f v') : Q_X3_readTest f v posf := by
  unfold Q_X3_readTest
  have Mv0 : Mv p v v := ⟨h.2.2.2, fun _ _ => rfl⟩
  refine q_pass (by decide) h (fun e hl v1 hv1 => ⟨fun _ => ?_, fun c => absurd c (by decide)⟩) (fun e => ⟨fun c => absurd rfl c, fun _ => h0 0 (by unfold tf; rw [if_pos e]) (by decide) (by have := h.2.1; omega) v Mv0⟩)
  have r1 : RI L (p + 1) v1 := h.mv hv1 (by omega)
  refine q_pickK r1 (fun e2 hl2 v2 hv2 => ⟨fun _ => ?_, fun c => absurd c e2⟩) (fun e2 => ⟨fun c => absurd rfl c, fun _ x1 ex1 => h0 1 (by unfold tf; rw [if_neg (not_not_intro e), if_pos e2]) (by decide) (by omega) v1 hv1⟩)
  have r2 : RI L (p + 2) v2 := r1.mv hv2 (by omega)
  have m2 : Mv (p + 2) v v2 := hv1.tr hv2
  refine q_digit (by decide) r2 (fun e3 hl3 v3 hv3 => ⟨fun _ => ?_, fun c => absurd c e3⟩) (fun e3 => ⟨fun c => absurd rfl c, fun _ x1 ex1 => h0 2 (by unfold tf; rw [if_neg (not_not_intro e), if_neg e2, if_pos e3]) (by decide) (by omega) v2 m2⟩)
  have r3 : RI L (p + 3) v3 := r2.mv hv3 (by omega)
  have m3 : Mv (p + 3) v v3 := m2.tr hv3
  refine q_digit (by decide) r3 (fun e4 hl4 v4 hv4 => ⟨fun _ => ?_, fun c => absurd c e4⟩) (fun e4 => ⟨fun c => absurd rfl c, fun _ x1 ex1 => h0 3 (by unfold tf; rw [if_neg (not_not_intro e), if_neg e2, if_neg e3, if_pos e4]) (by decide) (by omega) v3 m3⟩)
  have r4 : RI L (p + 4) v4 := r3.mv hv4 (by omega)
  have m4 : Mv (p + 4) v v4 := m3.tr hv4
  refine q_digit (by decide) r4 (fun e5 hl5 v5 hv5 x ex => ?_) (fun e5 x ex => ⟨fun _ => h0 4 (by unfold tf; rw [if_neg (not_not_intro e), if_neg e2, if_neg e3, if_neg e4, if_pos e5]) (by decide) (by omega) v4 m4, fun c => absurd rfl c⟩)
  have m5 : Mv (p + 5) v v5 := m4.tr hv5
  have k5 : v5 3 = nI j := by rw [m5.2 3 (by decide)]; exact hj
  rw [k5] at ex
  subst ex
  refine ⟨fun c => absurd c e5, fun _ => ⟨fun _ => ?_, fun c => absurd ((nI_ltI (b := 7) (by omega) (by omega)).mpr hj7) c⟩⟩
  have vk : vp_in (nI j) 7 := vi_nI (by omega) (by omega)
  have ck : (nI j).toNatClampNeg = j := nI_clamp (by omega)
  refine ⟨vk, fun f1 ef1 => ⟨vk, fun f2 ef2 => ⟨vk, fun f3 ef3 => ⟨vk, fun f4 ef4 v6 ev6 => ?_⟩⟩⟩⟩
  refine h1 (by unfold tf; rw [if_neg (not_not_intro e), if_neg e2, if_neg e3, if_neg e4, if_neg e5]) (by omega) f4 v6 ⟨?_, ?_, ?_, ?_, fun i i1 i2 i3 i4 => ?_⟩ ?_ ?_ (fun i i1 i2 => ?_)
  · rw [ef4, fu_ne (by decide), ef3, fu_ne (by decide), ef2, fu_ne (by decide), ef1, fu_eq]; show upd _ (nI j).toNatClampNeg _ = _; rw [ck]
  · rw [ef4, fu_ne (by decide), ef3, fu_ne (by decide), ef2, fu_eq]; show upd _ (nI j).toNatClampNeg _ = _; rw [ck, ef1, fu_ne (by decide)]
  · rw [ef4, fu_ne (by decide), ef3, fu_eq]; show upd _ (nI j).toNatClampNeg _ = _; rw [ck, ef2, fu_ne (by decide), ef1, fu_ne (by decide)]
  · rw [ef4, fu_eq]; show upd _ (nI j).toNatClampNeg _ = _; rw [ck, ef3, fu_ne (by decide), ef2, fu_ne (by decide), ef1, fu_ne (by decide)]
  · rw [ef4, fu_ne i4, ef3, fu_ne i3, ef2, fu_ne i2, ef1, fu_ne i1]
  · rw [ev6, fu_ne (by decide)]; exact m5.1
  · rw [ev6, fu_eq, k5, nI_1]
  · rw [ev6, fu_ne i2]; exact m5.2 i i1
end TX
