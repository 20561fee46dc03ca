/-! ===== servants: what each takes, in which order ===== -/
/-- the bits of a set, growing -/
def SQ (f : Nat → Nat) (c W : Nat) : Prop := (∀ j j', j < j' → j' < c → f j < f j') ∧ ∀ t, W.testBit t = true ↔ ∃ j, j < c ∧ f j = t
theorem SQ_le {f g : Nat → Nat} {c c' W : Nat} (hf : SQ f c W) (hg : SQ g c' W) : ∀ j, j < c → j < c' → (∀ i, i < j → f i = g i) → g j ≤ f j := by
  intro j hj hj' he
  obtain ⟨q, q1, q2⟩ := (hg.2 (f j)).mp ((hf.2 _).mpr ⟨j, hj, rfl⟩)
  rcases Nat.lt_trichotomy q j with e | e | e
  · have := hf.1 q j e hj
    rw [he q e] at this; omega
  · rw [e] at q2; omega
  · have := hg.1 j q e q1; omega
theorem SQ_un {f g : Nat → Nat} {c W : Nat} (hf : SQ f c W) (hg : SQ g c W) : ∀ j, j < c → f j = g j := by
  intro j
  induction j using Nat.strongRecOn with
  | ind j ih =>
    intro hj
    have h1 := SQ_le hf hg j hj hj (fun i hi => ih i hi (by omega))
    have h2 := SQ_le hg hf j hj hj (fun i hi => (ih i hi (by omega)).symm)
    omega
theorem wbn_bit {h : Hse} {bar : Int32} {D : Nat → Nat} {x t : Nat} : ∀ m : Nat, (wbn h bar D x m).testBit t = true ↔ ∃ i, i < m ∧ tb h bar D x i = t := by
  intro m
  induction m with
  | zero => rw [wbn, Nat.zero_testBit]; exact ⟨fun e => absurd e Bool.false_ne_true, fun ⟨i, hi, _⟩ => absurd hi (Nat.not_lt_zero i)⟩
  | succ m ih =>
    rw [wbn, Nat.testBit_or, Nat.testBit_two_pow, Bool.or_eq_true, decide_eq_true_iff, ih]
    constructor
    · intro e
      rcases e with ⟨i, i1, i2⟩ | e
      · exact ⟨i, by omega, i2⟩
      · exact ⟨m, by omega, e⟩
    · intro ⟨i, i1, i2⟩
      by_cases e : i = m
      · rw [e] at i2; exact Or.inr i2
      · exact Or.inl ⟨i, by omega, i2⟩
theorem cnt_1 {p q : Nat → Bool} {b : Nat} (hpq : ∀ i, i ≠ b → q i = p i) (hp : p b = false) (hq : q b = true) : ∀ n : Nat, cnt q n = cnt p n + (if b < n then 1 else 0) := by
  intro n
  induction n with
  | zero => rfl
  | succ n ih =>
    rw [cnt, cnt, ih]
    by_cases e : n = b
    · subst e
      rw [hp, hq]
      have h1 : (if n < n then 1 else 0 : Nat) = 0 := if_neg (Nat.lt_irrefl _)
      have h2 : (if n < n + 1 then 1 else 0 : Nat) = 1 := if_pos (Nat.lt_succ_self _)
      have h3 : (if true = true then 1 else 0 : Nat) = 1 := rfl
      have h4 : (if false = true then 1 else 0 : Nat) = 0 := rfl
      omega
    · rw [hpq n e]
      by_cases c : b < n
      · have h1 : (if b < n then 1 else 0 : Nat) = 1 := if_pos c
        have h2 : (if b < n + 1 then 1 else 0 : Nat) = 1 := if_pos (by omega)
        omega
      · have h1 : (if b < n then 1 else 0 : Nat) = 0 := if_neg c
        have h2 : (if b < n + 1 then 1 else 0 : Nat) = 0 := if_neg (by omega)
        omega
section TAK
variable {s : Stt} {np : Nat} {pd : Nat → Nat} {L : LMem} {st ru : Nat}
theorem rm_go {h : Hse} {t x : Nat} (hg : go h t x < 8) : (x = qa h t ∧ go h t x = qb h t) ∨ (x = qb h t ∧ go h t x = qa h t) := by
  revert hg
  unfold go
  intro hg
  by_cases c0 : qk h t = 120
  · rw [if_pos c0] at hg; omega
  · rw [if_neg c0] at hg ⊢
    by_cases c1 : qa h t = x
    · rw [if_pos c1] at hg ⊢; exact Or.inl ⟨c1.symm, rfl⟩
    · rw [if_neg c1] at hg ⊢
      by_cases c2 : qb h t = x
      · rw [if_pos c2] at hg ⊢
        by_cases c3 : qk h t = 62
        · rw [if_pos c3] at hg; omega
        · rw [if_neg c3] at hg ⊢; exact Or.inr ⟨c2.symm, rfl⟩
      · rw [if_neg c2] at hg; omega
/-- no tube twice on a way -/
theorem tb_inj (hS : SOK s) {bar : Int32} {x y : Nat} (hx : x < 8) (hy : y < 8) (hI : lab (sH s) bar y x < 1048576) {j j' : Nat} (hj : j < j') (hj' : j' < lab (sH s) bar y x % 16) : tb (sH s) bar (lab (sH s) bar y) x j ≠ tb (sH s) bar (lab (sH s) bar y) x j' := by
  intro e
  have hD := lab_is hS.1 bar y
  have g1 := (tb_is hS.1 hD hy hx hI (show j < lab (sH s) bar y x % 16 by omega)).1.2.2.1
  have g2 := (tb_is hS.1 hD hy hx hI hj').1.2.2.1
  have r := fun i (hi : i ≤ lab (sH s) bar y x % 16) => (rm_in hS.1 hD hy hx hI i hi).2.2.1
  have r1 := r j (by omega)
  have r2 := r (j + 1) (by omega)
  have r3 := r j' (by omega)
  have r4 := r (j' + 1) (by omega)
  have s1 : rm (sH s) bar (lab (sH s) bar y) x (j + 1) = go (sH s) (tb (sH s) bar (lab (sH s) bar y) x j) (rm (sH s) bar (lab (sH s) bar y) x j) := rfl
  have s2 : rm (sH s) bar (lab (sH s) bar y) x (j' + 1) = go (sH s) (tb (sH s) bar (lab (sH s) bar y) x j') (rm (sH s) bar (lab (sH s) bar y) x j') := rfl
  have ne : ∀ i i', i ≤ lab (sH s) bar y x % 16 → i' ≤ lab (sH s) bar y x % 16 → i < i' → rm (sH s) bar (lab (sH s) bar y) x i ≠ rm (sH s) bar (lab (sH s) bar y) x i' := fun i i' hi hi' hl h => by
    have a := r i hi
    have b := r i' hi'
    rw [h] at a; omega
  have n1 := ne j j' (by omega) (by omega) hj
  have n2 := ne j (j' + 1) (by omega) (by omega) (by omega)
  rw [s2] at n2
  rw [e] at g1
  rcases rm_go g1 with a | a <;> rcases rm_go g2 with b | b
  · exact n1 (by rw [a.1, b.1])
  · exact n2 (by rw [a.1, b.2])
  · exact n2 (by rw [a.1, b.2])
  · exact n1 (by rw [a.1, b.1])
theorem oW_inj (hS : SOK s) {c : Nat} (hc : c < sG s 2) (hh : hw s c) {j j' : Nat} (hj : j < oN s c) (hj' : j' < oN s c) (e : oW s c j = oW s c j') : j = j' := by
  have h := hS.2.2.2.2.2.2.2.2 c hc
  rw [oN_pos hh] at hj hj'
  rcases Nat.lt_trichotomy j j' with g | g | g
  · exact absurd e (tb_inj hS h.1 h.2.1 (fin_of hS hh) g hj')
  · exact g
  · exact absurd e.symm (tb_inj hS h.1 h.2.1 (fin_of hS hh) g hj)
theorem oT_pos {c : Nat} (hh : hw s c) : oT s c = wbn (sH s) (Int32.ofInt 0) (lab (sH s) (Int32.ofInt 0) (sC s 1 c)) (sC s 0 c) (oN s c) := (show oT s c = _ from if_pos hh).trans (by rw [oN_pos hh])
theorem oT_bit {c : Nat} (hh : hw s c) (t : Nat) : (oT s c).testBit t = true ↔ ∃ j, j < oN s c ∧ oW s c j = t := by
  rw [oT_pos hh, wbn_bit]
  exact Iff.rfl
theorem oW_q (hS : SOK s) {c : Nat} (hc : c < sG s 2) (hh : hw s c) {j : Nat} (hj : j < oN s c) : oW s c j < 12 := by
  have := oT_q hS hc ((oT_bit hh _).mpr ⟨j, hj, rfl⟩)
  have := hS.2.1
  omega
/-- as many bits as tubes -/
theorem oT_cnt (hS : SOK s) {c : Nat} (hc : c < sG s 2) (hh : hw s c) : cnt (fun u => (oT s c).testBit u) 12 = oN s c := by
  have key : ∀ m, m ≤ oN s c → cnt (fun u => (wbn (sH s) (Int32.ofInt 0) (lab (sH s) (Int32.ofInt 0) (sC s 1 c)) (sC s 0 c) m).testBit u) 12 = m := by
    intro m
    induction m with
    | zero =>
      intro _
      have : ∀ n : Nat, cnt (fun u => (0 : Nat).testBit u) n = 0 := by
        intro n
        induction n with
        | zero => rfl
        | succ n ih => rw [cnt, ih, Nat.zero_testBit]; rfl
      exact this 12
    | succ m ih =>
      intro hm
      have h1 := ih (by omega)
      have hq := oW_q hS hc hh (show m < oN s c by omega)
      have := cnt_1 (p := fun u => (wbn (sH s) (Int32.ofInt 0) (lab (sH s) (Int32.ofInt 0) (sC s 1 c)) (sC s 0 c) m).testBit u) (q := fun u => (wbn (sH s) (Int32.ofInt 0) (lab (sH s) (Int32.ofInt 0) (sC s 1 c)) (sC s 0 c) (m + 1)).testBit u) (b := oW s c m) (fun i hi => ?_) ?_ ?_ 12
      · rw [this, h1, if_pos hq]
      · show (wbn _ _ _ _ m ||| 2 ^ _).testBit i = _
        rw [Nat.testBit_or, Nat.testBit_two_pow, decide_eq_false (fun e => hi e.symm), Bool.or_false]
      · cases e : (wbn (sH s) (Int32.ofInt 0) (lab (sH s) (Int32.ofInt 0) (sC s 1 c)) (sC s 0 c) m).testBit (oW s c m) with
        | false => rfl
        | true =>
          obtain ⟨i, i1, i2⟩ := (wbn_bit m).mp e
          have := oW_inj hS hc hh (show i < oN s c by omega) (show m < oN s c by omega) i2
          omega
      · exact (wbn_bit (m + 1)).mpr ⟨m, by omega, rfl⟩
  have := key (oN s c) (Nat.le_refl _)
  rw [← oT_pos hh] at this
  exact this
/-- the order of the taking -/
def TKP (s : Stt) (ru c : Nat) (f : Nat → Nat) : Prop := (ru = 0 → ∀ j, j < oN s c → f j = oW s c j) ∧ (ru ≠ 0 → SQ f (oN s c) (oT s c))
theorem TKP_un {c : Nat} {f g : Nat → Nat} (hf : TKP s ru c f) (hg : TKP s ru c g) {j : Nat} (hj : j < oN s c) : f j = g j := by
  by_cases e : ru = 0
  · rw [hf.1 e j hj, hg.1 e j hj]
  · exact SQ_un (hf.2 e) (hg.2 e) j hj
noncomputable def tkF (s : Stt) (ru c : Nat) : Nat → Nat := Classical.epsilon (TKP s ru c)
theorem tkF_is {c : Nat} {f : Nat → Nat} (hf : TKP s ru c f) : TKP s ru c (tkF s ru c) := Classical.epsilon_spec ⟨f, hf⟩
theorem tkF_eq {c : Nat} {f : Nat → Nat} (hf : TKP s ru c f) {j : Nat} (hj : j < oN s c) : f j = tkF s ru c j := TKP_un hf (tkF_is hf) hj
theorem TKP_dat (hS : SOK s) {c : Nat} (hc : c < sG s 2) (hh : hw s c) {f : Nat → Nat} (hf : TKP s ru c f) : (∀ j, j < oN s c → f j < 12) ∧ ∀ j j', j < oN s c → j' < oN s c → f j = f j' → j = j' := by
  by_cases e : ru = 0
  · refine ⟨fun j hj => by rw [hf.1 e j hj]; exact oW_q hS hc hh hj, fun j j' hj hj' h => ?_⟩
    rw [hf.1 e j hj, hf.1 e j' hj'] at h
    exact oW_inj hS hc hh hj hj' h
  · have hq := hf.2 e
    refine ⟨fun j hj => ?_, fun j j' hj hj' h => ?_⟩
    · have := oT_q hS hc ((hq.2 _).mpr ⟨j, hj, rfl⟩)
      have := hS.2.1
      omega
    · rcases Nat.lt_trichotomy j j' with g | g | g
      · have := hq.1 j j' g hj'; omega
      · exact g
      · have := hq.1 j' j g hj; omega
theorem oN_1 (hS : SOK s) {c : Nat} (hc : c < sG s 2) (hh : hw s c) : 1 ≤ oN s c := by
  have h := hS.2.2.2.2.2.2.2.2 c hc
  rw [oN_pos hh]
  have h5 := (rm_in hS.1 (lab_is hS.1 (Int32.ofInt 0) (sC s 1 c)) h.2.1 h.1 (fin_of hS hh) 0 (by omega)).2.2.2.2
  rcases Nat.eq_zero_or_pos (lab (sH s) (Int32.ofInt 0) (sC s 1 c) (sC s 0 c) % 16) with e | e
  · exact absurd (h5.mpr e.symm) h.2.2.1
  · exact e
/-! the class -/
def GK (M : Mem) (s : Stt) (st ru k : Nat) : Prop := M 57 2 = nI (dbl (sH s)) ∧ ∀ i, i < k → (st.testBit i = true → hw s i ∧ M 64 i = nI (oN s i) ∧ ∃ f, TKP s ru i f ∧ ∀ j, j < oN s i → M (58 + 1 + i) j = nI (f j)) ∧ (st.testBit i = false → M 64 i = nI 0)
def cTk (k : Nat) : Nat → Nat → Bool := fun p i => Nat.beq p (58 + 1 + k) || (Nat.beq p 64 && Nat.beq i k)
theorem cTk_scr {k : Nat} (hk : k < 5) {M M1 : Mem} (h : Fr (cTk k) M M1) : Fr cScr M M1 := h.mono (fun p i hq => by
  have h1 : ¬ (37 ≤ p ∧ p ≤ 67) := fun e => by
    have : cScr p i = true := by
      unfold cScr
      rw [Nat.ble_eq_true_of_le e.1, Nat.ble_eq_true_of_le (show p ≤ 73 by omega), nbf (show p ≠ 68 by omega)]; rfl
    rw [this] at hq; exact absurd hq (by decide)
  unfold cTk
  rw [nbf (by omega), nbf (by omega : p ≠ 64)]; rfl)
theorem GK.nx {M M1 : Mem} {k : Nat} (hk : k < 5) (h : GK M s st ru k) (hF : Fr (cTk k) M M1) (hn : (st.testBit k = true → hw s k ∧ M1 64 k = nI (oN s k) ∧ ∃ f, TKP s ru k f ∧ ∀ j, j < oN s k → M1 (58 + 1 + k) j = nI (f j)) ∧ (st.testBit k = false → M1 64 k = nI 0)) : GK M1 s st ru (k + 1) := by
  refine ⟨(hF 57 2 (by unfold cTk; rw [nbf (by omega)]; rfl)).trans h.1, fun i hi => ?_⟩
  by_cases e : i = k
  · rw [e]; exact hn
  · have e64 : M1 64 i = M 64 i := hF 64 i (by unfold cTk; rw [nbf (by omega), nbf e]; rfl)
    have e59 : ∀ j, M1 (58 + 1 + i) j = M (58 + 1 + i) j := fun j => hF _ j (by unfold cTk; rw [nbf (by omega), nbf (by omega : 58 + 1 + i ≠ 64)]; rfl)
    obtain ⟨a, b⟩ := h.2 i (by omega)
    exact ⟨fun ht => by
      obtain ⟨a1, a2, f, a3, a4⟩ := a ht
      exact ⟨a1, e64.trans a2, f, a3, fun j hj => (e59 j).trans (a4 j hj)⟩, fun ht => e64.trans (b ht)⟩
theorem GK.fr {M M1 : Mem} {k : Nat} (h : GK M s st ru k) (hF : Fr cRt M M1) (hk : k ≤ 5) : GK M1 s st ru k := by
  have e : ∀ p i, 41 ≤ p → M1 p i = M p i := fun p i hp => hF p i (by unfold cRt; rw [nbf (by omega), nbf (by omega), nbf (by omega), nbf (by omega)]; rfl)
  refine ⟨(e _ _ (by omega)).trans h.1, fun i hi => ?_⟩
  obtain ⟨a, b⟩ := h.2 i hi
  exact ⟨fun ht => by
    obtain ⟨a1, a2, f, a3, a4⟩ := a ht
    exact ⟨a1, (e _ _ (by omega)).trans a2, f, a3, fun j hj => (e _ _ (by omega)).trans (a4 j hj)⟩, fun ht => (e _ _ (by omega)).trans (b ht)⟩
theorem h_byNumbers {M0 : Mem} {K : Mem → LMem → Prop} (hS : SOK s) {k : Nat} (hk : k < sG s 2) (hh : hw s k) (h375 : M0 37 5 = nI (oT s k)) (h64 : M0 64 k = nI 0) (kk : ∀ M f, Fr (cTk k) M0 M → SQ f (oN s k) (oT s k) → M 64 k = nI (oN s k) → (∀ j, j < oN s k → M (58 + 1 + k) j = nI (f j)) → K M L) : P_X7_takeByNumbers (nI k) M0 L K := by
  have h5 := hS.2.2.2.2.1
  have hT := oT_lt hS hk
  have h7 := oN_7 hS hk
  have hc := oT_cnt hS hk hh
  have cm : ∀ t m, cnt (fun u => (oT s k).testBit u) t ≤ cnt (fun u => (oT s k).testBit u) (t + m) := by
    intro t m
    induction m with
    | zero => exact Nat.le_refl _
    | succ m ih => rw [← Nat.add_assoc, cnt]; omega
  have ck : ∀ p i, cTk k p i = false → (p = 58 + 1 + k → False) := fun p i h e => by
    unfold cTk at h; rw [e, Nat.beq_refl] at h; exact absurd h (by simp)
  have go : ∀ (f t : Nat) (M : Mem) (g : Nat → Nat), t ≤ 12 → 12 < f + t → Fr (cTk k) M0 M → M 64 k = nI (cnt (fun u => (oT s k).testBit u) t) → (∀ j, j < cnt (fun u => (oT s k).testBit u) t → M (58 + 1 + k) j = nI (g j)) → (∀ j j', j < j' → j' < cnt (fun u => (oT s k).testBit u) t → g j < g j') → (∀ u, (u < t ∧ (oT s k).testBit u = true) ↔ ∃ j, j < cnt (fun u => (oT s k).testBit u) t ∧ g j = u) → PL_X7_takeByNumbers_2 K f (nI k) (nI t) M L := by
    intro f
    induction f with
    | zero => intro t M g h1 h2; omega
    | succ f ih =>
      intro t M g h1 h2 hF hq hA hg hb
      unfold PL_X7_takeByNumbers_2
      have e1 : (nI k).toNatClampNeg = k := nI_clamp (by omega)
      rw [e1, nI_s]
      refine pk_le 12 t (fun c1 => ?_) (fun c1 => ⟨pk_in k 5 (by omega), ?_⟩)
      · have e : t = 12 := by omega
        subst e
        rw [hc] at hq hA hg hb
        refine kk M g hF ⟨hg, fun u => ?_⟩ hq hA
        rw [← hb u]
        exact ⟨fun h => ⟨by have := oT_q hS hk h; have := hS.2.1; omega, h⟩, fun h => h.2⟩
      · have hle := cm t (12 - t)
        rw [show t + (12 - t) = 12 by omega, hc] at hle
        have e375 : M 37 5 = nI (oT s k) := (hF 37 5 (by unfold cTk; rw [nbf (by omega)]; rfl)).trans h375
        have o1 : Int32.ofInt 1 = nI 1 := rfl
        refine pk_le 8 _ (fun c2 => by omega) (fun c2 => ?_) rfl hq (by omega) (by omega)
        rw [e375, o1, bit_at (by omega) (by omega)]
        cases hbit : (oT s k).testBit t with
        | false =>
          have ec : cnt (fun u => (oT s k).testBit u) (t + 1) = cnt (fun u => (oT s k).testBit u) t := by rw [cnt, hbit]; rfl
          refine br_0 rfl (ih (t + 1) M g (by omega) (by omega) hF (by rw [ec]; exact hq) (by rw [ec]; exact hA) (by rw [ec]; exact hg) (by
            rw [ec]
            intro u
            rw [← hb u]
            refine ⟨fun h => ⟨?_, h.2⟩, fun h => ⟨by omega, h.2⟩⟩
            have : u ≠ t := fun e => by rw [e, hbit] at h; exact absurd h.2 Bool.false_ne_true
            omega))
        | true =>
          have ec : cnt (fun u => (oT s k).testBit u) (t + 1) = cnt (fun u => (oT s k).testBit u) t + 1 := by rw [cnt, hbit]; rfl
          have e2 : (M 64 k).toNatClampNeg = cnt (fun u => (oT s k).testBit u) t := by rw [hq, nI_clamp (by omega)]
          have f1 : cTk k (58 + 1 + k) (cnt (fun u => (oT s k).testBit u) t) = true := by unfold cTk; rw [Nat.beq_refl]; rfl
          have f2 : cTk k 64 k = true := by unfold cTk; rw [Nat.beq_refl, Nat.beq_refl, Bool.and_true, Bool.or_true]
          refine br_1 rfl ⟨by rw [hq]; exact aok_tk (by omega) (by omega), ?_⟩
          rw [e2, mp_p _ (by omega : 64 ≠ 58 + 1 + k), hq, nI_add]
          refine ih (t + 1) _ (fup g (cnt (fun u => (oT s k).testBit u) t) t) (by omega) (by omega) ((hF.put f1).put f2) (by rw [ec, mp_s]) (by
            rw [ec]
            intro j hj
            rw [mp_p _ (by omega : 58 + 1 + k ≠ 64)]
            by_cases e : j = cnt (fun u => (oT s k).testBit u) t
            · rw [e, mp_s, fup_s]
            · rw [mp_i _ e, fup_n e]; exact hA j (by omega)) (by
            rw [ec]
            intro j j' hjj hj'
            by_cases e : j' = cnt (fun u => (oT s k).testBit u) t
            · rw [e, fup_s, fup_n (by omega)]
              exact ((hb _).mpr ⟨j, by omega, rfl⟩).1
            · rw [fup_n e, fup_n (by omega)]; exact hg j j' hjj (by omega)) (by
            rw [ec]
            intro u
            constructor
            · intro ⟨h1, h2⟩
              by_cases e : u = t
              · exact ⟨_, Nat.lt_succ_self _, by rw [fup_s, e]⟩
              · obtain ⟨j, j1, j2⟩ := (hb u).mp ⟨by omega, h2⟩
                exact ⟨j, by omega, by rw [fup_n (by omega)]; exact j2⟩
            · intro ⟨j, j1, j2⟩
              by_cases e : j = cnt (fun u => (oT s k).testBit u) t
              · rw [e, fup_s] at j2; rw [← j2]; exact ⟨by omega, hbit⟩
              · rw [fup_n e] at j2
                have := (hb u).mpr ⟨j, by omega, j2⟩
                exact ⟨by omega, this.2⟩)
  unfold P_X7_takeByNumbers
  refine go 100000 0 M0 (fun _ => 0) (by omega) (by omega) (Fr.rf _ _) h64 (fun j hj => absurd hj (Nat.not_lt_zero j)) (fun j j' _ hj => absurd hj (Nat.not_lt_zero j')) (fun u => ⟨fun h => absurd h.1 (Nat.not_lt_zero u), fun ⟨j, hj, _⟩ => absurd hj (Nat.not_lt_zero j)⟩)
theorem h_asTheyCome {M0 : Mem} {K : Mem → LMem → Prop} (hS : SOK s) {k : Nat} (hk : k < sG s 2) (hh : hw s k) (hR : RT M0 (sH s) (Int32.ofInt 0) (lab (sH s) (Int32.ofInt 0) (sC s 1 k)) (sC s 0 k) (oN s k)) (kk : ∀ M, Fr (cTk k) M0 M → M 64 k = nI (oN s k) → (∀ j, j < oN s k → M (58 + 1 + k) j = nI (oW s k j)) → K M L) : P_X7_takeAsTheyCome (nI k) M0 L K := by
  have h5 := hS.2.2.2.2.1
  have h7 := oN_7 hS hk
  have e1 : (nI k).toNatClampNeg = k := nI_clamp (by omega)
  have e8' : (Int32.ofInt 8).toNatClampNeg = 8 := rfl
  have hty : oty (58 + 1 + k) = 0 ∧ 0 + 8 ≤ oln (58 + 1 + k) := by
    rcases (by omega : k = 0 ∨ k = 1 ∨ k = 2 ∨ k = 3 ∨ k = 4) with e | e | e | e | e <;> subst e <;> exact ⟨rfl, Nat.le_of_ble_eq_true rfl⟩
  unfold P_X7_takeAsTheyCome
  rw [e1, tn0, e8']
  refine ⟨pk_in k 5 (by omega), ⟨rfl, hty.1, by decide, by decide, by decide, Nat.le_of_ble_eq_true rfl, hty.2⟩, ?_⟩
  have f2 : cTk k 64 k = true := by unfold cTk; rw [Nat.beq_refl, Nat.beq_refl, Bool.and_true, Bool.or_true]
  have hF : Fr (cTk k) M0 (mcpy M0 39 (58 + 1 + k) 0 0 8) := fun p i hq => mc_o (fun e => by
    unfold cTk at hq; rw [e, Nat.beq_refl] at hq; exact absurd hq (by simp))
  refine kk _ (hF.put f2) ?_ (fun j hj => ?_)
  · rw [mp_s, hF 37 3 (by unfold cTk; rw [nbf (by omega)]; rfl)]; exact hR.1
  · rw [mp_p _ (by omega), mc_in (by omega)]
    exact hR.2.2.2.1 j hj
theorem hl_lgather {M0 : Mem} (hI : INVs M0 s np pd) (hst : st < 32) (hsn : ∀ i, st.testBit i = true → i < sG s 2) (hru : ru ≤ 1) {K : Int32 → Mem → LMem → Prop} (kk1 : ∀ M, Fr cScr M0 M → GK M s st ru 5 → K (nI 1) M L) (kk0 : ∀ M, Fr cScr M0 M → ¬ (∀ c, c < sG s 2 → st.testBit c = true → hw s c) → K (nI 0) M L) :
    ∀ (f k : Nat) (M : Mem), k ≤ 5 → 5 < f + k → Fr cScr M0 M → GK M s st ru k → PL_X7_gather_16 K f (nI st) (nI ru) (nI k) M L := by
  intro f
  have hS := hI.1
  have h5 := hS.2.2.2.2.1
  induction f with
  | zero => intro k M h1 h2; omega
  | succ f ih =>
    intro k M h1 h2 hF hM
    unfold PL_X7_gather_16
    have e1 : (nI k).toNatClampNeg = k := nI_clamp (by omega)
    have o1 : Int32.ofInt 1 = nI 1 := rfl
    have f2 : cTk k 64 k = true := by unfold cTk; rw [Nat.beq_refl, Nat.beq_refl, Bool.and_true, Bool.or_true]
    rw [e1, nI_s]
    refine pk_le 5 k (fun c1 => ?_) (fun c1 => ⟨pk_in k 5 c1, ?_⟩)
    · have e : k = 5 := by omega
      subst e
      exact kk1 M hF hM
    · rw [o1, bit_at (by omega) (by omega)]
      have hF1 : Fr cScr M0 (mput M 64 k (Int32.ofInt 0)) := hF.tr (cTk_scr c1 ((Fr.rf _ _).put f2))
      have hI1 := hI.scr hF1
      cases hbit : st.testBit k with
      | false =>
        refine br_0 rfl (ih (k + 1) _ (by omega) (by omega) hF1 (hM.nx c1 ((Fr.rf _ _).put f2) ⟨fun e => ?_, fun _ => mp_s _ _ _ _⟩))
        rw [hbit] at e; exact absurd e Bool.false_ne_true
      | true =>
        have hk := hsn k hbit
        have hcal := hI1.2.1.cal k hk
        have hc := hS.2.2.2.2.2.2.2.2 k hk
        have m10 : M 10 k = nI (sC s 0 k) := (mp_p M (by decide)).symm.trans hcal.1
        have m11 : M 11 k = nI (sC s 1 k) := (mp_p M (by decide)).symm.trans hcal.2.1
        rw [m10, m11]
        refine br_1 rfl (s_find hI1 (Int32.ofInt 0) hc.1 hc.2.1 (fun c2 c3 M2 hF2 hI2 hR => br_1 rfl ?_) (fun c2 M2 hF2 hI2 => br_0 rfl (kk0 M2 (hF1.tr (cRt_scr hF2)) (fun h => c2 (h k hk hbit)))))
        have hh : hw s k := c2
        rw [← oN_pos hh] at hR
        have hG2 : GK M2 s st ru k := ((show GK (mput M 64 k (Int32.ofInt 0)) s st ru k from ⟨by rw [mp_p _ (by decide)]; exact hM.1, fun i hi => by
          have := hM.2 i hi
          rw [mp_i _ (by omega)]
          refine ⟨fun ht => ?_, this.2⟩
          obtain ⟨a1, a2, g, a3, a4⟩ := this.1 ht
          exact ⟨a1, a2, g, a3, fun j hj => by rw [mp_p _ (by omega)]; exact a4 j hj⟩⟩)).fr hF2 (by omega)
        have hF3 := hF1.tr (cRt_scr hF2)
        have h64 : M2 64 k = nI 0 := (hF2 64 k rfl).trans (mp_s _ _ _ _)
        rcases Nat.le_one_iff_eq_zero_or_eq_one.mp hru with e | e
        · subst e
          refine br_0 rfl (h_asTheyCome hS hk hh hR (fun M3 hF4 a1 a2 => ?_))
          exact ih (k + 1) M3 (by omega) (by omega) (hF3.tr (cTk_scr c1 hF4)) (hG2.nx c1 hF4 ⟨fun _ => ⟨hh, a1, oW s k, ⟨fun _ j _ => rfl, fun e => absurd rfl e⟩, a2⟩, fun e => by rw [hbit] at e; exact absurd e (by decide)⟩)
        · subst e
          have e375 : M2 37 5 = nI (oT s k) := hR.2.2.1.trans (by rw [oN_pos hh]; exact wm_wb hS hc.1 hc.2.1 c2)
          refine br_1 rfl (h_byNumbers hS hk hh e375 h64 (fun M3 g hF4 a0 a1 a2 => ?_))
          exact ih (k + 1) M3 (by omega) (by omega) (hF3.tr (cTk_scr c1 hF4)) (hG2.nx c1 hF4 ⟨fun _ => ⟨hh, a1, g, ⟨fun e => absurd e (by decide), fun _ => a0⟩, a2⟩, fun e => by rw [hbit] at e; exact absurd e (by decide)⟩)
theorem h_lgather {M : Mem} (hI : INVs M s np pd) (hst : st < 32) (hsn : ∀ i, st.testBit i = true → i < sG s 2) (hru : ru ≤ 1) {K : Int32 → Mem → LMem → Prop} (kk1 : ∀ M', Fr cScr M M' → GK M' s st ru 5 → K (nI 1) M' L) (kk0 : ∀ M', Fr cScr M M' → ¬ (∀ c, c < sG s 2 → st.testBit c = true → hw s c) → K (nI 0) M' L) : P_X7_gather (nI st) (nI ru) M L K := by
  have hS := hI.1
  unfold P_X7_gather
  refine h_ofKind (kd := 61) hI.2.1.hc hS.2.1 hS.1 (by decide) ?_
  exact hl_lgather hI hst hsn hru kk1 kk0 100000 0 _ (by omega) (by omega) ((Fr.rf _ _).put rfl) ⟨by rw [mp_s]; rfl, fun i hi => absurd hi (Nat.not_lt_zero i)⟩
end TAK

