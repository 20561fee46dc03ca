/-! ===== the model: one order, minute by minute ===== -/
section ORM
variable {s : Stt} {np : Nat} {pd : Nat → Nat} {L : LMem} {p : Nat → Nat}
theorem oT_q (hS : SOK s) {c t : Nat} (hc : c < sG s 2) (ht : (oT s c).testBit t = true) : t < qn (sH s) := by
  have h := hS.2.2.2.2.2.2.2.2 c hc
  have : oT s c < 2 ^ qn (sH s) := by
    unfold oT wm
    split
    · next c1 => exact wbn_lt _ (s_wok hS h.1 h.2.1 (fin_of hS c1)).2.1
    · exact Nat.two_pow_pos _
  rcases Nat.lt_or_ge t (qn (sH s)) with e | e
  · exact e
  · rw [Nat.testBit_lt_two_pow (Nat.lt_of_lt_of_le this (Nat.pow_le_pow_right (by decide) e))] at ht
    exact absurd ht Bool.false_ne_true
theorem oR_bit (s : Stt) (c r : Nat) : (oR s c).testBit r = true ↔ r = sC s 0 c ∨ r = sC s 1 c := by
  unfold oR
  rw [Nat.testBit_or, Bool.or_eq_true, Nat.testBit_two_pow, Nat.testBit_two_pow, decide_eq_true_iff, decide_eq_true_iff]
  exact ⟨fun h => h.elim (fun e => Or.inl e.symm) (fun e => Or.inr e.symm), fun h => h.elim (fun e => Or.inl e.symm) (fun e => Or.inr e.symm)⟩
theorem oR_and (s : Stt) (c a : Nat) : oR s c &&& a ≠ 0 ↔ a.testBit (sC s 0 c) = true ∨ a.testBit (sC s 1 c) = true := by
  rw [ne0_bit]
  constructor
  · intro ⟨t, ht⟩
    rw [Nat.testBit_and, Bool.and_eq_true, oR_bit] at ht
    rcases ht with ⟨h | h, h2⟩
    · exact Or.inl (h ▸ h2)
    · exact Or.inr (h ▸ h2)
  · intro h
    rcases h with h | h
    · exact ⟨_, by rw [Nat.testBit_and, (oR_bit s c _).mpr (Or.inl rfl), h]; rfl⟩
    · exact ⟨_, by rw [Nat.testBit_and, (oR_bit s c _).mpr (Or.inr rfl), h]; rfl⟩
/-- rooms, once, twice: those of the first i that go on at minute m -/
def fR (s : Stt) (p : Nat → Nat) (m i a : Nat) : Prop := a < 256 ∧ ∀ r, a.testBit r = true ↔ ∃ j, j < i ∧ act s p (sts s p) j m ∧ (oR s (p j)).testBit r = true
def fO (s : Stt) (p : Nat → Nat) (m i b : Nat) : Prop := b < 4096 ∧ ∀ t, b.testBit t = true ↔ ∃ j, j < i ∧ act s p (sts s p) j m ∧ (oT s (p j)).testBit t = true
def twi (s : Stt) (p : Nat → Nat) (m i t : Nat) : Prop := ∃ j j', j' < j ∧ j < i ∧ act s p (sts s p) j m ∧ act s p (sts s p) j' m ∧ (oT s (p j)).testBit t = true ∧ (oT s (p j')).testBit t = true
def fT (s : Stt) (p : Nat → Nat) (m i c : Nat) : Prop := c < 4096 ∧ ∀ t, c.testBit t = true ↔ twi s p m i t
theorem hl_fr124 {M : Mem} {K : Int32 → Mem → LMem → Prop} (hI : INVs M s np pd) (hW : WYm M s (sG s 2)) (hp : OOK s p) {k m a b : Nat} (hk : k < sG s 2) {v1 v2 : Int32} (ha : fR s p m k a) (hb : fO s p m k b) (kk1 : ¬ BZ s p (sts s p) k k m → K (nI 1) M L) (kk0 : BZ s p (sts s p) k k m → K (nI 0) M L) :
    ∀ (f t c : Nat), t ≤ qn (sH s) → qn (sH s) < f + t → c < 4096 → (∀ u, c.testBit u = true ↔ twi s p m k u ∨ (u < t ∧ qk (sH s) u ≠ 61 ∧ b.testBit u = true)) → PL_X10_isFreeAt_124 K f v1 v2 (nI (p k)) (nI a) (nI b) (nI c) (nI t) M L := by
  intro f
  have hS := hI.1
  have h12 := hS.2.1
  have h5 := hS.2.2.2.2.1
  have hpk := hp.1 k hk
  induction f with
  | zero => intro t c h1 h2; omega
  | succ f ih =>
    intro t c h1 h2 hc hb2
    unfold PL_X10_isFreeAt_124
    refine pk_le (qn (sH s)) t (fun c1 => ⟨pk_in (p k) 5 (by omega), ?_⟩) (fun c1 => ⟨pk_in t 13 (by omega), ?_⟩) hI.2.2.1.1
    · have e : t = qn (sH s) := by omega
      subst e
      have hcal := hI.2.2.1.cal (p k) hpk
      have hr := hS.2.2.2.2.2.2.2.2 _ hpk
      have e1 : Int32.ofInt 1 = nI 1 := rfl
      have ha8 := ha.1
      have room : ∀ r, (r = sC s 0 (p k) ∨ r = sC s 1 (p k)) → a.testBit r = true → BZ s p (sts s p) k k m := fun r hr2 hx => by
        obtain ⟨j, j1, j2, j3⟩ := (ha.2 r).mp hx
        exact ⟨j, j1, j2, Or.inl ((oR_and s (p k) _).mpr (hr2.elim (fun e => Or.inl (e ▸ j3)) (fun e => Or.inr (e ▸ j3))))⟩
      rw [nI_clamp (by omega), hcal.1, hcal.2.1, (hW _ hpk).1, e1, bit_at (by omega) (by omega), bit_at (by omega) (by omega), fa_and]
      cases b0 : a.testBit (sC s 0 (p k)) with
      | true => exact br_1 rfl (kk0 (room _ (Or.inl rfl) b0))
      | false =>
        refine br_0 rfl ?_
        cases b1 : a.testBit (sC s 1 (p k)) with
        | true => exact br_1 rfl (kk0 (room _ (Or.inr rfl) b1))
        | false =>
          have hand : c &&& oT s (p k) < 4096 := and_lt (oT_lt hS hpk)
          refine br_0 rfl (pk_eq _ 0 (fun c2 => kk1 ?_) (fun c2 => kk0 ?_) rfl rfl (by omega))
          · intro ⟨j, j1, j2, j3⟩
            have no : ∀ u, (oT s (p k)).testBit u = true → c.testBit u = true → False := fun u h1 h2 => by
              have : (c &&& oT s (p k)).testBit u = true := by rw [Nat.testBit_and, h1, h2]; rfl
              rw [c2, Nat.zero_testBit] at this
              exact Bool.false_ne_true this
            rcases j3 with j3 | ⟨u, u1, u2, u3⟩ | ⟨j', k1, k2, u, u1, u2, u3⟩
            · rcases (oR_and s (p k) _).mp j3 with e | e
              · rw [(ha.2 _).mpr ⟨j, j1, j2, e⟩] at b0; exact Bool.false_ne_true b0.symm
              · rw [(ha.2 _).mpr ⟨j, j1, j2, e⟩] at b1; exact Bool.false_ne_true b1.symm
            · exact no u u2 ((hb2 u).mpr (Or.inr ⟨oT_q hS hpk u2, u3, (hb.2 u).mpr ⟨j, j1, j2, u1⟩⟩))
            · exact no u u3 ((hb2 u).mpr (Or.inl ⟨j, j', k1, j1, j2, k2, u2, u1⟩))
          · obtain ⟨u, hu⟩ := ne0_bit.mp c2
            rw [Nat.testBit_and, Bool.and_eq_true, hb2] at hu
            rcases hu with ⟨⟨j, j', q1, q2, q3, q4, q5, q6⟩ | ⟨q1, q2, q3⟩, hu2⟩
            · exact ⟨j, q2, q3, Or.inr (Or.inr ⟨j', q1, q4, u, q6, q5, hu2⟩)⟩
            · obtain ⟨j, j1, j2, j3⟩ := (hb.2 u).mp q3
              exact ⟨j, j1, j2, Or.inr (Or.inl ⟨u, j3, hu2, q2⟩)⟩
    · have hkd := (hI.2.2.1.hm.2 t c1).2.2.1
      have hkb := (hS.1.2 t c1).2.2.2.2.2
      have e1 : Int32.ofInt 1 = nI 1 := rfl
      have e0 : Int32.ofInt 0 = nI 0 := rfl
      rw [nI_clamp (by omega), hkd, nI_s, e1, e0, sh1 (by omega), fa_and, fa_or, fa_or, Nat.or_zero]
      have hand : b &&& 2 ^ t < 2 ^ 12 := Nat.lt_of_le_of_lt Nat.and_le_left hb.1
      have bb : ∀ u, (b &&& 2 ^ t).testBit u = true ↔ u = t ∧ b.testBit u = true := fun u => by
        rw [Nat.testBit_and, Bool.and_eq_true, Nat.testBit_two_pow, decide_eq_true_iff]
        exact ⟨fun h => ⟨h.2.symm, h.1⟩, fun h => ⟨h.2, h.1.symm⟩⟩
      refine pk_eq (qk (sH s) t) 61 (fun c2 => ih (t + 1) c (by omega) (by omega) hc (fun u => ?_)) (fun c2 => ih (t + 1) _ (by omega) (by omega) (Nat.or_lt_two_pow (n := 12) hc hand) (fun u => ?_)) rfl rfl (by omega)
      · rw [hb2 u]
        refine ⟨fun h => h.elim Or.inl (fun h => Or.inr ⟨by omega, h.2⟩), fun h => h.elim Or.inl (fun h => Or.inr ⟨?_, h.2⟩)⟩
        have : u ≠ t := fun e => h.2.1 (by rw [e]; exact c2)
        omega
      · rw [Nat.testBit_or, Bool.or_eq_true, hb2 u, bb u]
        constructor
        · intro h
          rcases h with (h | h) | ⟨h, h'⟩
          · exact Or.inl h
          · exact Or.inr ⟨by omega, h.2⟩
          · exact Or.inr ⟨by omega, by rw [h]; exact c2, h'⟩
        · intro h
          rcases h with h | ⟨h, h', h''⟩
          · exact Or.inl (Or.inl h)
          · by_cases e : u = t
            · exact Or.inr ⟨e, h''⟩
            · exact Or.inl (Or.inr ⟨by omega, h', h''⟩)
theorem hl_fr19 {M : Mem} {K : Int32 → Mem → LMem → Prop} (hI : INVs M s np pd) (hW : WYm M s (sG s 2)) (hp : OOK s p) {k m : Nat} (hk : k < sG s 2) (hm : m < 2 ^ 20) (hO : ∀ i, i < sG s 2 → M 102 i = nI (p i)) (hT : ∀ i, i < k → M 103 (p i) = nI (sts s p i)) (kk1 : ¬ BZ s p (sts s p) k k m → K (nI 1) M L) (kk0 : BZ s p (sts s p) k k m → K (nI 0) M L) :
    ∀ (f i a b c : Nat), i ≤ k → k < f + i → fR s p m i a → fO s p m i b → fT s p m i c → PL_X10_isFreeAt_19 K f (nI k) (nI m) (nI (p k)) (nI a) (nI b) (nI c) (nI i) M L := by
  intro f
  have hS := hI.1
  have h12 := hS.2.1
  have h5 := hS.2.2.2.2.1
  induction f with
  | zero => intro i a b c h1 h2; omega
  | succ f ih =>
    intro i a b c h1 h2 ha hb hc
    unfold PL_X10_isFreeAt_19
    refine pk_le k i (fun c1 => ?_) (fun c1 => ?_)
    · have e : i = k := by omega
      subst e
      exact hl_fr124 hI hW hp hk ha hb kk1 kk0 100000 0 c (by omega) (by omega) hc.1 (fun u => ⟨fun h => Or.inl ((hc.2 u).mp h), fun h => h.elim (hc.2 u).mpr (fun h => absurd h.1 (Nat.not_lt_zero u))⟩)
    · have hpi := hp.1 i (by omega)
      have hcal := hI.2.2.1.cal (p i) hpi
      have hr := hS.2.2.2.2.2.2.2.2 _ hpi
      have hst := (st_ok hS hp i (by omega)).2
      have e1 : (nI i).toNatClampNeg = i := nI_clamp (by omega)
      have e2 : (nI (p i)).toNatClampNeg = p i := nI_clamp (by omega)
      have o1 : Int32.ofInt 1 = nI 1 := rfl
      have na : ¬ act s p (sts s p) i m → fR s p m (i + 1) a ∧ fO s p m (i + 1) b ∧ fT s p m (i + 1) c := fun hn => by
        have g : ∀ j, j < i + 1 → act s p (sts s p) j m → j < i := fun j hj h => by
          have : j ≠ i := fun e => hn (by rw [← e]; exact h)
          omega
        refine ⟨⟨ha.1, fun r => ?_⟩, ⟨hb.1, fun t => ?_⟩, ⟨hc.1, fun t => ?_⟩⟩
        · rw [ha.2 r]; exact ⟨fun ⟨j, j1, j2, j3⟩ => ⟨j, by omega, j2, j3⟩, fun ⟨j, j1, j2, j3⟩ => ⟨j, g j j1 j2, j2, j3⟩⟩
        · rw [hb.2 t]; exact ⟨fun ⟨j, j1, j2, j3⟩ => ⟨j, by omega, j2, j3⟩, fun ⟨j, j1, j2, j3⟩ => ⟨j, g j j1 j2, j2, j3⟩⟩
        · rw [hc.2 t]; exact ⟨fun ⟨j, j', q1, q2, q3⟩ => ⟨j, j', q1, by omega, q3⟩, fun ⟨j, j', q1, q2, q3⟩ => ⟨j, j', q1, g j q2 q3.1, q3⟩⟩
      rw [e1, hO i (by omega), e2, hT i c1, hcal.1, hcal.2.1, hcal.2.2.1, (hW _ hpi).1, nI_s, nI_add]
      refine ⟨pk_in i 5 (by omega), pk_in (p i) 5 (by omega), pk_lt m (sts s p i) (fun c2 => ?_) (fun c2 => pk_le (sts s p i + sC s 2 (p i)) m (fun c3 => ?_) (fun c3 => ?_) rfl rfl (by omega) (by omega)) rfl rfl (by omega) (by omega)⟩
      · obtain ⟨g1, g2, g3⟩ := na (fun h => by have := h.1; omega)
        exact ih (i + 1) a b c (by omega) (by omega) g1 g2 g3
      · obtain ⟨g1, g2, g3⟩ := na (fun h => by have := h.2; omega)
        exact ih (i + 1) a b c (by omega) (by omega) g1 g2 g3
      · have hact : act s p (sts s p) i m := ⟨c2, c3⟩
        have hRl := oR_lt hS hpi
        have hTl := oT_lt hS hpi
        rw [o1, sh1 (by omega), sh1 (by omega), fa_or, fa_or, fa_or, fa_and, fa_or]
        refine ih (i + 1) _ _ _ (by omega) (by omega) ⟨Nat.or_lt_two_pow (n := 8) ha.1 hRl, fun r => ?_⟩ ⟨Nat.or_lt_two_pow (n := 12) hb.1 hTl, fun t => ?_⟩ ⟨Nat.or_lt_two_pow (n := 12) hc.1 (and_lt hTl), fun t => ?_⟩
        · rw [Nat.testBit_or, Bool.or_eq_true, ha.2 r]
          constructor
          · intro h
            rcases h with ⟨j, j1, j2, j3⟩ | h
            · exact ⟨j, by omega, j2, j3⟩
            · exact ⟨i, by omega, hact, h⟩
          · intro ⟨j, j1, j2, j3⟩
            by_cases e : j = i
            · rw [e] at j3; exact Or.inr j3
            · exact Or.inl ⟨j, by omega, j2, j3⟩
        · rw [Nat.testBit_or, Bool.or_eq_true, hb.2 t]
          constructor
          · intro h
            rcases h with ⟨j, j1, j2, j3⟩ | h
            · exact ⟨j, by omega, j2, j3⟩
            · exact ⟨i, by omega, hact, h⟩
          · intro ⟨j, j1, j2, j3⟩
            by_cases e : j = i
            · rw [e] at j3; exact Or.inr j3
            · exact Or.inl ⟨j, by omega, j2, j3⟩
        · rw [Nat.testBit_or, Bool.or_eq_true, hc.2 t, Nat.testBit_and, Bool.and_eq_true, hb.2 t]
          constructor
          · intro h
            rcases h with ⟨j, j', q1, q2, q3⟩ | ⟨⟨j, j1, j2, j3⟩, h2⟩
            · exact ⟨j, j', q1, by omega, q3⟩
            · exact ⟨i, j, j1, by omega, hact, j2, h2, j3⟩
          · intro ⟨j, j', q1, q2, q3, q4, q5, q6⟩
            by_cases e : j = i
            · rw [e] at q1 q5; exact Or.inr ⟨⟨j', q1, q4, q6⟩, q5⟩
            · exact Or.inl ⟨j, j', q1, by omega, q3, q4, q5, q6⟩
theorem h_isFreeAt {M : Mem} {K : Int32 → Mem → LMem → Prop} (hI : INVs M s np pd) (hW : WYm M s (sG s 2)) (hp : OOK s p) {k m : Nat} (hk : k < sG s 2) (hm : m < 2 ^ 20) (hO : ∀ i, i < sG s 2 → M 102 i = nI (p i)) (hT : ∀ i, i < k → M 103 (p i) = nI (sts s p i)) (kk1 : ¬ BZ s p (sts s p) k k m → K (nI 1) M L) (kk0 : BZ s p (sts s p) k k m → K (nI 0) M L) : P_X10_isFreeAt (nI k) (nI m) M L K := by
  have h5 := hI.1.2.2.2.2.1
  have z : ∀ (q : Nat → Prop) (u : Nat), (∀ j, ¬ q j) → ((0 : Nat).testBit u = true ↔ ∃ j, q j) := fun q u h => ⟨fun e => by rw [Nat.zero_testBit] at e; exact absurd e Bool.false_ne_true, fun ⟨j, hj⟩ => absurd hj (h j)⟩
  unfold P_X10_isFreeAt
  rw [nI_clamp (by omega), hO k hk]
  exact ⟨pk_in k 5 (by omega), hl_fr19 hI hW hp hk hm hO hT kk1 kk0 100000 0 0 0 0 (by omega) (by omega) ⟨by decide, fun r => z _ r (fun j h => absurd h.1 (Nat.not_lt_zero j))⟩ ⟨by decide, fun r => z _ r (fun j h => absurd h.1 (Nat.not_lt_zero j))⟩ ⟨by decide, fun r => z _ r (fun j ⟨j', h⟩ => absurd h.2.1 (Nat.not_lt_zero j))⟩⟩
/-! one call after the other -/
def c103 : Nat → Nat → Bool := fun p _ => Nat.beq p 103
theorem c103_scr {M M1 : Mem} (h : Fr c103 M M1) : Fr cScr M M1 := h.mono (fun p i hq => by
  have h1 : p ≠ 103 := fun e => by subst e; exact nomatch (show true = false from hq)
  unfold c103; exact nbf h1)
theorem WYm.fr {M M1 : Mem} {k : Nat} (h : WYm M s k) (h1 : ∀ p i, 99 ≤ p → p ≤ 101 → M1 p i = M p i) : WYm M1 s k := fun c hc => by
  obtain ⟨a1, a2, a3⟩ := h c hc
  exact ⟨(h1 _ _ (by omega) (by omega)).trans a1, (h1 _ _ (by omega) (by omega)).trans a2, fun j hj => (h1 _ _ (by omega) (by omega)).trans (a3 j hj)⟩
theorem c103_lo {M M1 : Mem} (h : Fr c103 M M1) {p i : Nat} (hp : p ≤ 102) : M1 p i = M p i := h p i (nbf (by omega))
theorem hl_go25 {M : Mem} {K : Int32 → Mem → LMem → Prop} {C : Int32 → Int32 → Mem → LMem → Prop} (hI : INVs M s np pd) (hW : WYm M s (sG s 2)) (hp : OOK s p) {k : Nat} (hk : k < sG s 2) (hO : ∀ i, i < sG s 2 → M 102 i = nI (p i)) (hT : ∀ i, i < k → M 103 (p i) = nI (sts s p i)) (kk : C (nI (en s p (k + 1))) (nI (k + 1)) (mput M 103 (p k) (nI (sts s p k))) L) :
    ∀ (f r m : Nat), r ≤ sC s 2 (p k) → r ≤ m → m - r ≤ sts s p k → 50 < f + m → (∀ q, m - r ≤ q → q < m → ¬ BZ s p (sts s p) k k q) → (∀ b, b < m - r → ¬ okS s p (sts s p) k b) → PL_X10_goOrder_25 K C f (nI (en s p k)) (nI k) (nI (p k)) (nI r) (nI m) M L := by
  intro f
  have hS := hI.1
  have h5 := hS.2.2.2.2.1
  have hpk := hp.1 k hk
  obtain ⟨hst, hs9⟩ := st_ok hS hp k hk
  have hM9 := oM_in hS hp hk
  have hen := en_le hS hp k (by omega)
  have hcal := hI.2.2.1.cal (p k) hpk
  induction f with
  | zero => intro r m h1 h2 h3 h4; omega
  | succ f ih =>
    intro r m h1 h2 h3 h4 hfree hno
    unfold PL_X10_goOrder_25
    rw [nI_clamp (by omega), hcal.2.2.1, nI_s, nI_s, nI_s]
    refine ⟨pk_in (p k) 5 (by omega), pk_le (sC s 2 (p k)) r (fun c1 => ?_) (fun c1 => ?_) rfl rfl (by omega) (by omega)⟩
    · have er : r = sC s 2 (p k) := by omega
      have hok : okS s p (sts s p) k (m - r) := fun q q1 q2 => hfree q q1 (by omega)
      have est : m - r = sts s p k := isS_un ⟨hok, hno⟩ hst
      have em : m = sts s p k + sC s 2 (p k) := by omega
      have eC := kk
      rw [en, ← em] at eC
      rw [pk_sub (by omega), show m - sC s 2 (p k) = sts s p k by omega]
      refine pk_le m (en s p k) (fun c2 => ?_) (fun c2 => ?_) rfl rfl (by omega) (by omega)
      · unfold mx at eC
        rw [if_neg (by omega)] at eC; exact eC
      · unfold mx at eC
        rw [if_pos c2] at eC; exact eC
    · refine h_isFreeAt hI hW hp hk (by omega) hO hT (fun hf => br_1 rfl ?_) (fun hb => br_0 rfl ?_)
      · have o1 : Int32.ofInt 1 = nI 1 := rfl
        refine ih (r + 1) (m + 1) (by omega) (by omega) (by omega) (by omega) (fun q q1 q2 => ?_) (fun b hb => hno b (by omega))
        by_cases e : q = m
        · rw [e]; exact hf
        · exact hfree q (by omega) (by omega)
      · have hno' : ∀ b, b < m + 1 → ¬ okS s p (sts s p) k b := fun b hb2 hok => by
          rcases Nat.lt_or_ge b (m - r) with e | e
          · exact hno b e hok
          · exact hok m (by omega) (by omega) hb
        have : m + 1 ≤ sts s p k := by
          rcases Nat.lt_or_ge (sts s p k) (m + 1) with e | e
          · exact absurd hst.1 (hno' _ e)
          · exact e
        exact ih 0 (m + 1) (by omega) (by omega) (by omega) (by omega) (fun q q1 q2 => by omega) (fun b hb2 => hno' b (by omega))
theorem hl_go4 {M0 : Mem} {K : Int32 → Mem → LMem → Prop} (hI : INVs M0 s np pd) (hW : WYm M0 s (sG s 2)) (hp : OOK s p) (hO : ∀ i, i < sG s 2 → M0 102 i = nI (p i)) (kk : ∀ M, Fr c103 M0 M → (∀ i, i < sG s 2 → M 103 (p i) = nI (sts s p i)) → K (nI (en s p (sG s 2))) M L) :
    ∀ (f k : Nat) (M : Mem), k ≤ sG s 2 → sG s 2 < f + k → Fr c103 M0 M → (∀ i, i < k → M 103 (p i) = nI (sts s p i)) → PL_X10_goOrder_4 K f (nI (en s p k)) (nI k) M L := by
  intro f
  have hS := hI.1
  have h5 := hS.2.2.2.2.1
  induction f with
  | zero => intro k M h1 h2; omega
  | succ f ih =>
    intro k M h1 h2 hF hT
    have hI1 := hI.scr (c103_scr hF)
    unfold PL_X10_goOrder_4
    refine pk_le (sG s 2) k (fun c1 => ?_) (fun c1 => ⟨pk_in k 5 (by omega), ?_⟩) hI1.2.2.1.wai
    · have e : k = sG s 2 := by omega
      subst e
      exact kk M hF hT
    · have hO1 : ∀ i, i < sG s 2 → M 102 i = nI (p i) := fun i hi => (c103_lo hF (by omega)).trans (hO i hi)
      have hW1 : WYm M s (sG s 2) := hW.fr (fun q i _ hq => c103_lo hF (by omega))
      rw [nI_clamp (by omega), hO1 k c1]
      refine hl_go25 hI1 hW1 hp c1 hO1 hT ?_ 100000 0 0 (by omega) (by omega) (by omega) (by omega) (fun q _ hq => absurd hq (Nat.not_lt_zero q)) (fun q hq => absurd hq (Nat.not_lt_zero q))
      refine ih (k + 1) _ (by omega) (by omega) (hF.put rfl) (fun i hi => ?_)
      by_cases e : i = k
      · rw [e, mp_s]
      · have : p i ≠ p k := fun h => e (hp.2 i k (by omega) c1 h)
        rw [mp_i _ this]; exact hT i (by omega)
theorem h_goOrder {M : Mem} {K : Int32 → Mem → LMem → Prop} (hI : INVs M s np pd) (hW : WYm M s (sG s 2)) (hp : OOK s p) (hO : ∀ i, i < sG s 2 → M 102 i = nI (p i)) (kk : ∀ M', Fr c103 M M' → (∀ i, i < sG s 2 → M' 103 (p i) = nI (sts s p i)) → K (nI (en s p (sG s 2))) M' L) : P_X10_goOrder M L K := by
  have h5 := hI.1.2.2.2.2.1
  unfold P_X10_goOrder
  exact hl_go4 hI hW hp hO kk 100000 0 M (by omega) (by omega) (Fr.rf _ _) (fun i hi => absurd hi (Nat.not_lt_zero i))
theorem hl_isByDue {M : Mem} {K : Int32 → Mem → LMem → Prop} (hI : INVs M s np pd) (hp : OOK s p) (hsu : ∀ c, c < sG s 2 → ∃ i, i < sG s 2 ∧ p i = c) (hT : ∀ i, i < sG s 2 → M 103 (p i) = nI (sts s p i)) (kk1 : ¬ lte s p (sG s 2) → K (nI 1) M L) (kk0 : lte s p (sG s 2) → K (nI 0) M L) :
    ∀ (f c b : Nat), c ≤ sG s 2 → sG s 2 < f + c → b ≤ 1 → (b = 1 ↔ ∀ i, i < sG s 2 → p i < c → ¬ sC s 3 (p i) < sts s p i + sC s 2 (p i)) → PL_X10_isByDue_4 K f (nI b) (nI c) M L := by
  intro f
  have hS := hI.1
  have h5 := hS.2.2.2.2.1
  induction f with
  | zero => intro c b h1 h2; omega
  | succ f ih =>
    intro c b h1 h2 hb hbb
    unfold PL_X10_isByDue_4
    rw [nI_s]
    refine pk_le (sG s 2) c (fun c1 => ?_) (fun c1 => ?_) hI.2.2.1.wai
    · have e : c = sG s 2 := by omega
      subst e
      rcases Nat.le_one_iff_eq_zero_or_eq_one.mp hb with e | e
      · subst e
        refine ⟨Or.inl rfl, kk0 ?_⟩
        refine Classical.byContradiction (fun hn => absurd (hbb.mpr (fun i hi _ h => hn ⟨i, hi, h⟩)) (by decide))
      · subst e
        exact ⟨Or.inr rfl, kk1 (fun ⟨i, i1, i2⟩ => hbb.mp rfl i i1 (hp.1 i i1) i2)⟩
    · rcases Nat.le_one_iff_eq_zero_or_eq_one.mp hb with e | e
      · subst e
        exact br_0 rfl (ih (c + 1) 0 (by omega) (by omega) (by omega) ⟨fun e => absurd e (by decide), fun g => hbb.mpr (fun i hi hc => g i hi (by omega))⟩)
      · subst e
        obtain ⟨i, i1, i2⟩ := hsu c c1
        have hst := (st_ok hS hp i i1).2
        have hr := hS.2.2.2.2.2.2.2.2 _ c1
        have hcal := hI.2.2.1.cal c c1
        have hTi := hT i i1
        rw [i2] at hTi
        refine br_1 rfl ⟨pk_in c 5 (by omega), ?_⟩
        rw [nI_clamp (by omega), hcal.2.2.1, hcal.2.2.2, hTi, nI_add]
        refine pk_lt _ _ (fun c2 => ih (c + 1) 0 (by omega) (by omega) (by omega) ⟨fun e => absurd e (by decide), fun g => ?_⟩) (fun c2 => ih (c + 1) 1 (by omega) (by omega) (by omega) ⟨fun _ i' hi' hc' => ?_, fun _ => rfl⟩) rfl rfl (by omega) (by omega)
        · exact absurd (by rw [i2]; exact c2) (g i i1 (by omega))
        · by_cases e : p i' = c
          · have : i' = i := hp.2 i' i hi' i1 (by rw [e, i2])
            rw [this, i2]; omega
          · exact hbb.mp rfl i' hi' (by omega)
theorem h_isByDue {M : Mem} {K : Int32 → Mem → LMem → Prop} (hI : INVs M s np pd) (hp : OOK s p) (hsu : ∀ c, c < sG s 2 → ∃ i, i < sG s 2 ∧ p i = c) (hT : ∀ i, i < sG s 2 → M 103 (p i) = nI (sts s p i)) (kk1 : ¬ lte s p (sG s 2) → K (nI 1) M L) (kk0 : lte s p (sG s 2) → K (nI 0) M L) : P_X10_isByDue M L K := by
  have h5 := hI.1.2.2.2.2.1
  unfold P_X10_isByDue
  exact hl_isByDue hI hp hsu hT kk1 kk0 100000 0 1 (by omega) (by omega) (by omega) ⟨fun _ i _ h => absurd h (Nat.not_lt_zero _), fun _ => rfl⟩
end ORM
