/-! ===== further, bridges, locked, orders: the class's answers ===== -/
/-- the best so far, of the pairs V -/
def VB (S : Nat → Nat → Nat) (V : Nat → Nat → Prop) (st : Int32 × Nat) : Prop := (st.1 = Int32.ofInt (-6) ∧ ∀ a b, ¬ V a b) ∨ (¬ st.1 = Int32.ofInt (-6) ∧ (∀ a b, V a b → st.2 ≤ S a b) ∧ ∃ a b, V a b ∧ a < 8 ∧ b < 8 ∧ st.2 = S a b)
theorem VB_up {S : Nat → Nat → Nat} {V W : Nat → Nat → Prop} {st : Int32 × Nat} {a b : Nat} (ha : a < 8) (hb : b < 8) (h : VB S V st) (hW : ∀ a' b', W a' b' ↔ V a' b' ∨ (a' = a ∧ b' = b)) : VB S W (if st.1 = Int32.ofInt (-6) ∨ S a b < st.2 then (nI (10 * a + b), S a b) else st) := by
  by_cases c : st.1 = Int32.ofInt (-6) ∨ S a b < st.2
  · rw [if_pos c]
    refine Or.inr ⟨nI_ne6 (by omega), fun a' b' h' => ?_, a, b, (hW a b).mpr (Or.inr ⟨rfl, rfl⟩), ha, hb, rfl⟩
    show S a b ≤ S a' b'
    rcases (hW a' b').mp h' with h1 | ⟨rfl, rfl⟩
    · rcases h with ⟨-, h2⟩ | ⟨h0, h2, -⟩
      · exact absurd h1 (h2 a' b')
      · have := h2 a' b' h1
        rcases c with c | c
        · exact absurd c h0
        · omega
    · exact Nat.le_refl _
  · rw [if_neg c]
    rcases h with ⟨h0, -⟩ | ⟨h0, h2, h3⟩
    · exact absurd (Or.inl h0) c
    · obtain ⟨a1, b1, h3, h5⟩ := h3
      refine Or.inr ⟨h0, fun a' b' h' => ?_, a1, b1, (hW a1 b1).mpr (Or.inl h3), h5⟩
      rcases (hW a' b').mp h' with h1 | ⟨rfl, rfl⟩
      · exact h2 a' b' h1
      · exact Nat.le_of_not_lt (fun e => c (Or.inr e))
theorem VB_ext {S : Nat → Nat → Nat} {V W : Nat → Nat → Prop} {st : Int32 × Nat} (h : VB S V st) (hW : ∀ a b, W a b ↔ V a b) : VB S W st := by
  rcases h with ⟨h0, h1⟩ | ⟨h0, h1, h2⟩
  · exact Or.inl ⟨h0, fun a b h => h1 a b ((hW a b).mp h)⟩
  · obtain ⟨a1, b1, h3, h5⟩ := h2
    exact Or.inr ⟨h0, fun a b h => h1 a b ((hW a b).mp h), a1, b1, (hW a1 b1).mpr h3, h5⟩
theorem VB_fin {S : Nat → Nat → Nat} {a : Nat} (ha : a < 8) : ∀ (g b : Nat) (st : Int32 × Nat) (V : Nat → Nat → Prop), b + g ≤ 8 → VB S V st → VB S (fun a' b' => V a' b' ∨ (a' = a ∧ b ≤ b' ∧ b' < b + g)) (fin S a g b st) := by
  intro g
  induction g with
  | zero => intro b st V _ h; exact VB_ext h (fun a' b' => ⟨fun e => e.elim id (fun e => by omega), Or.inl⟩)
  | succ g ih =>
    intro b st V h1 h
    rw [fin]
    refine VB_ext (ih (b + 1) _ (fun a' b' => V a' b' ∨ (a' = a ∧ b' = b)) (by omega) (VB_up ha (by omega) h (fun _ _ => Iff.rfl))) (fun a' b' => ?_)
    constructor
    · intro e
      rcases e with e | ⟨e1, e2, e3⟩
      · exact Or.inl (Or.inl e)
      · by_cases q : b' = b
        · exact Or.inl (Or.inr ⟨e1, q⟩)
        · exact Or.inr ⟨e1, by omega, by omega⟩
    · intro e
      rcases e with (e | ⟨e1, e2⟩) | ⟨e1, e2, e3⟩
      · exact Or.inl e
      · exact Or.inr ⟨e1, by omega, by omega⟩
      · exact Or.inr ⟨e1, by omega, by omega⟩
theorem VB_fout {S : Nat → Nat → Nat} : ∀ (g a : Nat) (st : Int32 × Nat) (V : Nat → Nat → Prop), a + g ≤ 8 → VB S V st → VB S (fun a' b' => V a' b' ∨ (a ≤ a' ∧ a' < a + g ∧ a' < b' ∧ b' < 8)) (fout S g a st) := by
  intro g
  induction g with
  | zero => intro a st V _ h; exact VB_ext h (fun a' b' => ⟨fun e => e.elim id (fun e => by omega), Or.inl⟩)
  | succ g ih =>
    intro a st V h1 h
    rw [fout]
    refine VB_ext (ih (a + 1) _ _ (by omega) (VB_fin (by omega) (7 - a) (a + 1) st V (by omega) h)) (fun a' b' => ?_)
    constructor
    · intro e
      rcases e with e | ⟨e1, e2, e3, e4⟩
      · exact Or.inl (Or.inl e)
      · by_cases q : a' = a
        · exact Or.inl (Or.inr ⟨q, by omega, by omega⟩)
        · exact Or.inr ⟨by omega, by omega, e3, e4⟩
    · intro e
      rcases e with (e | ⟨e1, e2, e3⟩) | ⟨e1, e2, e3, e4⟩
      · exact Or.inl e
      · exact Or.inr ⟨by omega, by omega, by omega, by omega⟩
      · exact Or.inr ⟨by omega, by omega, e3, e4⟩
/-- the sum that a tube more of this length brings at the best -/
noncomputable def fB (h : Hse) (car l : Nat) : Nat := (fout (SF h car l) 8 0 (Int32.ofInt (-6), 0)).2
theorem fB_spec (h : Hse) (car l : Nat) : (∀ a b, a < b → b < 8 → fB h car l ≤ SF h car l a b) ∧ ∃ a b, a < b ∧ b < 8 ∧ fB h car l = SF h car l a b := by
  have h1 := VB_fout (S := SF h car l) 8 0 (Int32.ofInt (-6), 0) (fun _ _ => False) (by decide) (Or.inl ⟨rfl, fun _ _ e => e⟩)
  rcases h1 with ⟨-, h2⟩ | ⟨-, h2, h3⟩
  · exact absurd (Or.inr ⟨by decide, by decide, by decide, by decide⟩) (h2 0 1)
  · obtain ⟨a, b, h5, h6, h7, h8⟩ := h3
    exact ⟨fun a b h1 h4 => h2 a b (Or.inr ⟨by omega, by omega, h1, h4⟩), a, b, h5.elim False.elim (fun e => e.2.2.1), h7, h8⟩
theorem sm_le2 {f g : Nat → Nat} : ∀ n : Nat, (∀ i, i < n → f i ≤ g i) → sm f n ≤ sm g n := by
  intro n
  induction n with
  | zero => intro _; exact Nat.le_refl _
  | succ n ih =>
    intro h
    rw [sm_s, sm_s]
    exact Nat.add_le_add (ih (fun i hi => h i (by omega))) (h n (by omega))
theorem SS_le2 {F G : Nat → Nat → Nat} (h : ∀ x y, x < 8 → y < 8 → F x y ≤ G x y) : SS F ≤ SS G := sm_le2 8 (fun x hx => sm_le2 8 (fun y hy => h x y hx hy))
theorem mn_mono {a b c d : Nat} (h : a ≤ c) (k : b ≤ d) : mn a b ≤ mn c d := by unfold mn; split <;> split <;> omega
theorem wth_mono {F : Nat → Nat → Nat} {car a b l l' x y : Nat} (h : l ≤ l') (h99 : F x y ≤ 99) : wth F car a b l x y ≤ wth F car a b l' x y := by
  unfold wth
  exact cut_le (mn_mono (Nat.le_refl _) (mn_mono (by omega) (by omega))) (Nat.le_trans (mn_le _ _).1 h99)
theorem wth_le {h : Hse} {bar : Int32} {car a b l x y : Nat} (H : HOK h) (hx : x < 8) : wth (dc h bar car) car a b l x y ≤ dc h bar car x y := by
  unfold wth
  have h1 := (mn_le (dc h bar car x y) (mn (dc h bar car x a + l + dc h bar car b y) (dc h bar car x b + l + dc h bar car a y))).1
  have h9 := dv_99 (bar := bar) H y hx
  generalize mn (dc h bar car x y) (mn (dc h bar car x a + l + dc h bar car b y) (dc h bar car x b + l + dc h bar car a y)) = z at h1 ⊢
  unfold dc cut at h1 ⊢
  split at h1 <;> split <;> (try split) <;> omega
theorem fB_dc {h : Hse} {car : Nat} (H : HOK h) (l : Nat) : fB h car l ≤ SS (dc h (Int32.ofInt 0) car) := Nat.le_trans ((fB_spec h car l).1 0 1 (by decide) (by decide)) (SS_le2 (fun _ _ hx _ => wth_le H hx))
theorem fB_mono {h : Hse} {car l l' : Nat} (H : HOK h) (hc : car ≤ 60) (hl : l ≤ l') : fB h car l ≤ fB h car l' := by
  obtain ⟨a, b, hab, hb, e⟩ := (fB_spec h car l').2
  rw [e]
  exact Nat.le_trans ((fB_spec h car l).1 a b hab hb) (SS_le2 (fun x y hx _ => wth_mono hl (dc_99 H hc y hx)))
section OPS
variable {M : Mem} {L : LMem} {s : Stt} {np : Nat} {pd : Nat → Nat} {K : Int32 → Mem → LMem → Prop}
theorem u_fur2 (hI : INVs M s np pd) (kk : ∀ M1, Fr cScr M M1 → K (nI (SS (dc (sH s) (Int32.ofInt 0) (sG s 0)))) M1 L) : P_X9_further (Int32.ofInt 1) (Int32.ofInt 2) M L K := by
  have hS := hI.1
  have hc60 := hS.2.2.1.2
  unfold P_X9_further
  refine br_1 (wi_1 (k := 1) (a := 1) (b := 9) (by omega) (by omega) (by decide) rfl rfl rfl M) (br_1 (wi_1 (k := 2) (a := 0) (b := 2) (by omega) (by omega) (by decide) rfl rfl rfl M) (h_measure70 hS.1 hS.2.1 hI.2.1.hc hc60 hI.2.1.car (fun M1 hF1 hm1 => br_t rfl ?_)))
  exact h_sum hm1 (fun x y hx _ => dc_99 hS.1 hc60 y hx) (kk M1 (cD70_scr hF1))
theorem u_fur1 (hI : INVs M s np pd) {l : Nat} (h1 : 1 ≤ l) (h9 : l ≤ 9) (kk : ∀ M1, Fr cScr M M1 → K (nI (fB (sH s) (sG s 0) l)) M1 L) : P_X9_further (nI l) (Int32.ofInt 1) M L K := by
  have hS := hI.1
  have hc60 := hS.2.2.1.2
  unfold P_X9_further
  refine br_1 (wi_1 (k := l) (a := 1) (b := 9) h1 h9 (by decide) rfl rfl rfl M) (br_1 (wi_1 (k := 1) (a := 0) (b := 2) (by omega) (by omega) (by decide) rfl rfl rfl M) (h_measure70 hS.1 hS.2.1 hI.2.1.hc hc60 hI.2.1.car (fun M1 hF1 hm1 => br_f (by decide) ?_)))
  have hI1 := hI.scr (cD70_scr hF1)
  exact hl_f56 (st' := fout (SF (sH s) (sG s 0) l) 8 0 (Int32.ofInt (-6), 0)) hS.1 hc60 ⟨h1, h9⟩ hm1 hI1.2.1.car (fun c0 => absurd c0 one_ne) (fun _ => kk M1 (cD70_scr hF1)) 100000 8 0 (Int32.ofInt (-6), 0) (by omega) (by omega) ⟨Or.inl rfl, by omega⟩ rfl
theorem u_bri (hI : INVs M s np pd) (kk : ∀ M1 B, B < 2 ^ qn (sH s) → Fr cScr M M1 → K (nI B) M1 L) : P_X9_bridges M L K := by
  have hS := hI.1
  have hc60 := hS.2.2.1.2
  unfold P_X9_bridges
  refine h_measure70 hS.1 hS.2.1 hI.2.1.hc hc60 hI.2.1.car (fun M1 hF1 hm1 => ?_)
  have hI1 := hI.scr (cD70_scr hF1)
  exact hl_c16 hS.1 hS.2.1 hI1.2.1.hc hc60 hI1.2.1.car hm1 (fun M2 hF2 => kk M2 _ (mk_lt _ _) ((cD70_scr hF1).tr (cD72_scr hF2))) 100000 0 M1 (by omega) (by have := hS.2.1; omega) (Fr.rf _ _)
theorem lk_none {cn : Nat → Nat} {tk : Nat → Nat → Nat} {cap : Nat → Nat} (hD : LKD cn tk cap) (hno : (∀ i j j', i < 5 → j < j' → j' < cn i → tk i j < tk i j') ∨ ∃ i0, ∀ i, i < 5 → i ≠ i0 → cn i = 0) (d : Nat → Nat) : ¬ lkL cn tk cap d := by
  intro ⟨h1, h2, ⟨i0, hi0, hd0⟩, h4⟩
  have hold : ∀ i, i < 5 → 1 ≤ d i → ∃ i' j, i' < 5 ∧ j < d i' ∧ tk i' j = tk i (d i) := by
    intro i hi hd
    have h5 := h4 i hi hd
    have h6 := (hD.2.2.2 (tk i (d i))).1
    refine Classical.byContradiction (fun hn => ?_)
    have : lkC tk d (tk i (d i)) 5 = 0 := by
      have hz : ∀ k, k ≤ 5 → lkC tk d (tk i (d i)) k = 0 := by
        intro k
        induction k with
        | zero => intro _; rfl
        | succ k ih =>
          intro hk
          rw [lkC_s, ih (by omega), if_neg (fun e => ?_)]
          obtain ⟨j, j1, j2⟩ := (lkB_iff (d k)).mp e
          exact hn ⟨k, j, by omega, j1, j2⟩
      exact hz 5 (Nat.le_refl _)
    omega
  rcases hno with hr | ⟨q, hq⟩
  · have key : ∀ (n i : Nat), i < 5 → 1 ≤ d i → 12 - tk i (d i) < n → False := by
      intro n
      induction n with
      | zero => intro i _ _ h; omega
      | succ n ih =>
        intro i hi hd hn
        have hdi : d i < cn i := (h1 i hi).resolve_left (by omega)
        obtain ⟨i', j, a1, a2, a3⟩ := hold i hi hd
        have hdi' : d i' < cn i' := (h1 i' a1).resolve_left (by omega)
        have h7 := hr i' j (d i') a1 a2 hdi'
        have h8 := hD.2.1 i' (d i') a1 hdi'
        exact ih i' a1 (by omega) (by omega)
    exact key _ i0 hi0 hd0 (Nat.lt_succ_self _)
  · have hone : ∀ i, i < 5 → 1 ≤ d i → i = q := fun i hi hd => Classical.byContradiction (fun e => by
      have := hq i hi e
      rcases h1 i hi with g | g <;> omega)
    obtain ⟨i', j, a1, a2, a3⟩ := hold i0 hi0 hd0
    have e1 := hone i0 hi0 hd0
    have e2 := hone i' a1 (by omega)
    subst e1
    subst e2
    have hdi : d i' < cn i' := (h1 i' hi0).resolve_left (by omega)
    have := hD.2.2.1 i' j (d i') hi0 (by omega) hdi a3
    omega
theorem u_locked (hI : INVs M s np pd) {st ru : Nat} (hst : st < 2 ^ sG s 2) (hru : ru ≤ 1) (hh : ∀ c, c < sG s 2 → hw s c) (hno : ru = 1 ∨ ∀ i i', st.testBit i = true → st.testBit i' = true → i = i') (kk : ∀ M1, Fr cScr M M1 → K (Int32.ofInt (-6)) M1 L) : P_X9_locked (nI st) (nI ru) M L K := by
  have hS := hI.1
  have h5 := hS.2.2.2.2.1
  have e2n : Int32.ofInt 1 <<< (nI (sG s 2) &&& 31) = nI (2 ^ sG s 2) := by rw [show Int32.ofInt 1 = nI 1 from rfl, sh1 (by omega)]
  have hp : 2 ^ sG s 2 ≤ 2 ^ 5 := Nat.pow_le_pow_right (by decide) h5
  unfold P_X9_locked
  rw [hI.2.1.wai, e2n]
  refine br_f (nI_pos (by omega)) (br_f (nI_ge hst (by omega)) (br_1 (wi_1 (k := ru) (a := 0) (b := 1) (by omega) hru (by decide) rfl rfl rfl M) ?_))
  have hst32 : st < 32 := by omega
  have hsn : ∀ i, st.testBit i = true → i < sG s 2 := fun i hi => Nat.lt_of_not_le (fun e => by
    rw [Nat.testBit_lt_two_pow (Nat.lt_of_lt_of_le hst (Nat.pow_le_pow_right (by decide) e))] at hi
    exact Bool.false_ne_true hi)
  refine h_lgather hI hst32 hsn hru (fun M1 hF1 hG => br_1 rfl ?_) (fun M1 hF1 hn => absurd (fun c hc _ => hh c hc) hn)
  have hbit : ∀ i, st.testBit i = true → i < sG s 2 ∧ hw s i ∧ TKP s ru i (tkF s ru i) := fun i hi => by
    have h1 := hsn i hi
    obtain ⟨a1, a2, f, a3, a4⟩ := (hG.2 i (by omega)).1 hi
    exact ⟨h1, a1, tkF_is a3⟩
  have hLD : LKD (fun i => if st.testBit i = true then oN s i else 0) (tkF s ru) (capM (dbl (sH s))) := by
    refine ⟨fun i => ?_, fun i j hi hj => ?_, fun i j j' hi hj hj' e => ?_, fun t => ?_⟩
    · try dsimp only
      split
      · next c => exact oN_7 hS (hsn i c)
      · omega
    · dsimp only at hj
      by_cases c : st.testBit i = true
      · rw [if_pos c] at hj
        obtain ⟨b1, b2, b3⟩ := hbit i c
        exact (TKP_dat hS b1 b2 b3).1 j hj
      · rw [if_neg c] at hj; omega
    · dsimp only at hj hj'
      by_cases c : st.testBit i = true
      · rw [if_pos c] at hj hj'
        obtain ⟨b1, b2, b3⟩ := hbit i c
        exact (TKP_dat hS b1 b2 b3).2 j j' hj hj' e
      · rw [if_neg c] at hj; omega
    · unfold capM; split <;> omega
  have hLM : LKM M1 (fun i => if st.testBit i = true then oN s i else 0) (tkF s ru) (dbl (sH s)) := by
    refine ⟨hG.1, fun i hi => ?_⟩
    try dsimp only
    cases c : st.testBit i with
    | true =>
      obtain ⟨a1, a2, f, a3, a4⟩ := (hG.2 i hi).1 c
      rw [if_pos rfl]
      exact ⟨a2, fun j hj => by rw [a4 j hj, tkF_eq a3 hj]⟩
    | false =>
      rw [if_neg (by decide)]
      exact ⟨(hG.2 i hi).2 c, fun j hj => absurd hj (Nat.not_lt_zero j)⟩
  refine h_leastLocked hLD (dbl_lt hS) hLM (fun v hv hR => ?_)
  rcases hR with ⟨rfl, -⟩ | ⟨-, d, -, hl, -⟩
  · exact br_0 rfl (kk M1 hF1)
  · refine absurd hl (lk_none hLD ?_ d)
    rcases hno with e | e
    · refine Or.inl (fun i j j' hi hjj hj' => ?_)
      try dsimp only at hj'
      by_cases c : st.testBit i = true
      · rw [if_pos c] at hj'
        exact ((hbit i c).2.2.2 (by omega)).1 j j' hjj hj'
      · rw [if_neg c] at hj'; omega
    · by_cases c : ∃ i, st.testBit i = true
      · obtain ⟨i, hi⟩ := c
        refine Or.inr ⟨i, fun i' _ hne => ?_⟩
        try dsimp only
        rw [if_neg (fun h => hne (e i' i h hi))]
      · refine Or.inr ⟨0, fun i' _ _ => ?_⟩
        try dsimp only
        rw [if_neg (fun h => c ⟨i', h⟩)]
end OPS
