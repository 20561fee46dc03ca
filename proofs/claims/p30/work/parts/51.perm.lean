/-! ===== orders as numbers: pure ===== -/
def pn (n k i : Nat) : Nat := if i < n then k / n ^ (n - 1 - i) % n else i
def msk (n k : Nat) : Nat → Nat
  | 0 => 0
  | d + 1 => msk n k d ||| 2 ^ (pn n k (n - 1 - d))
def pm (n k : Nat) : Bool := Nat.beq (msk n k n) (2 ^ n - 1)
def tuo (p : Nat → Nat) : Nat → Nat
  | 0 => 0
  | t + 1 => if p t ≤ p (t + 1) then t + 1 else tuo p t
def nEo (p : Nat → Nat) (v : Nat) : Nat → Nat
  | 0 => 0
  | u + 1 => if u + 1 ≤ v + 1 then u + 1 else if p v ≤ p (u + 1) then u + 1 else nEo p v u
def swo (p : Nat → Nat) (a b i : Nat) : Nat := if i = b then p a else if i = a then p b else p i
def rvo : Nat → (Nat → Nat) → Nat → Nat → Nat → Nat
  | 0, p, _, _ => p
  | f + 1, p, lo, hi => if hi ≤ lo then p else rvo f (swo p lo hi) (lo + 1) (hi - 1)
def nxo (n : Nat) (p : Nat → Nat) : Option (Nat → Nat) :=
  if n < 2 then none else match tuo p (n - 1) with
  | 0 => none
  | t + 1 => some (rvo 5 (swo p t (nEo p t (n - 1))) (t + 1) (n - 1))
def plf (n : Nat) : Nat → Nat → List Nat
  | 0, _ => []
  | f + 1, k => bif pm n k then k :: plf n f (k + 1) else plf n f (k + 1)
def gpo (n : Nat) (p : Nat → Nat) : Bool := (List.range n).all (fun i => Nat.blt (p i) n && (List.range n).all (fun j => Nat.beq i j || !(Nat.beq (p i) (p j)))) && (List.range n).all (fun c => (List.range n).any (fun i => Nat.beq (p i) c))
def eqo (p q : Nat → Nat) : Bool := (List.range 5).all (fun i => Nat.beq (p i) (q i))
def cks (n : Nat) : List Nat → Bool
  | [] => true
  | k :: l => gpo n (pn n k) && ((match l, nxo n (pn n k) with
    | [], none => true
    | k2 :: _, some q => eqo q (pn n k2)
    | _, _ => false) && cks n l)
def hdo (n : Nat) : List Nat → Bool
  | [] => false
  | k :: _ => eqo (fun i => i) (pn n k)
theorem all_po : ∀ n, n < 6 → cks n (plf n (n ^ n) 0) = true ∧ hdo n (plf n (n ^ n) 0) = true ∧ (plf n (n ^ n) 0).length ≤ 120 := by decide +kernel
theorem eqo_i {p q : Nat → Nat} (h : eqo p q = true) {i : Nat} (hi : i < 5) : p i = q i := by
  unfold eqo at h
  exact Nat.eq_of_beq_eq_true (List.all_eq_true.mp h i (List.mem_range.mpr hi))
theorem gpo_i {n : Nat} {p : Nat → Nat} (h : gpo n p = true) : (∀ i, i < n → p i < n) ∧ (∀ i j, i < n → j < n → p i = p j → i = j) ∧ ∀ c, c < n → ∃ i, i < n ∧ p i = c := by
  unfold gpo at h
  rw [Bool.and_eq_true] at h
  obtain ⟨h1, h2⟩ := h
  refine ⟨fun i hi => ?_, fun i j hi hj e => ?_, fun c hc => ?_⟩
  · have := List.all_eq_true.mp h1 i (List.mem_range.mpr hi)
    rw [Bool.and_eq_true] at this
    exact Nat.le_of_ble_eq_true this.1
  · have := List.all_eq_true.mp h1 i (List.mem_range.mpr hi)
    rw [Bool.and_eq_true] at this
    have := List.all_eq_true.mp this.2 j (List.mem_range.mpr hj)
    rw [Bool.or_eq_true] at this
    rcases this with e2 | e2
    · exact Nat.eq_of_beq_eq_true e2
    · rw [e, Nat.beq_refl] at e2; exact absurd e2 (by decide)
  · have := List.all_eq_true.mp h2 c (List.mem_range.mpr hc)
    obtain ⟨i, i1, i2⟩ := List.any_eq_true.mp this
    exact ⟨i, List.mem_range.mp i1, Nat.eq_of_beq_eq_true i2⟩
theorem pn_lt {n k i : Nat} (hi : i < n) : pn n k i < n := by
  unfold pn; rw [if_pos hi]; exact Nat.mod_lt _ (by omega)
theorem nn_lt : ∀ n, n < 6 → n ^ n ≤ 3125 := by decide
/-! numbers that go down -/
def dnI (j : Nat) : Int32 := if j = 0 then Int32.ofInt (-1) else nI (j - 1)
theorem dnI_a : ∀ j, nI j + Int32.ofInt (-1) = dnI j := by
  intro j
  cases j with
  | zero => decide
  | succ j => exact pk_m1 j
theorem dnI_s : ∀ j, nI j - Int32.ofInt 1 = dnI j := by
  intro j
  cases j with
  | zero => decide
  | succ j => exact pk_sub (b := 1) (by omega)
theorem dnI_0 : dnI 0 < 0 := by decide
/-! the model lays an order -/
def c102 : Nat → Nat → Bool := fun p _ => Nat.beq p 102
/-! the class goes on to the next order -/
def c54 : Nat → Nat → Bool := fun p _ => Nat.beq p 54
theorem c54_scr {M M1 : Mem} (h : Fr c54 M M1) : Fr cScr M M1 := h.mono (fun p i hq => by
  have h1 : p ≠ 54 := fun e => by subst e; exact nomatch (show true = false from hq)
  unfold c54; exact nbf h1)
theorem ORDm.sw {M : Mem} {p : Nat → Nat} (h : ORDm M p) {a b : Nat} (ha : a < 5) (hb : b < 5) : ORDm (g_X4_swap M (nI a) (nI b)) (swo p a b) ∧ Fr c54 M (g_X4_swap M (nI a) (nI b)) := by
  unfold g_X4_swap
  rw [nI_clamp (by omega), nI_clamp (by omega)]
  refine ⟨fun i hi => ?_, ((Fr.rf _ _).put rfl).put rfl⟩
  unfold swo
  by_cases e : i = b
  · rw [e, mp_s, if_pos rfl]; exact h a ha
  · rw [mp_i _ e, if_neg e]
    by_cases e2 : i = a
    · rw [e2, mp_s, if_pos rfl]; exact h b hb
    · rw [mp_i _ e2, if_neg e2]; exact h i hi
theorem hl_rv {M0 : Mem} {L : LMem} {K : Int32 → Mem → LMem → Prop} {v1 v2 : Int32} :
    ∀ (f g lo hi : Nat) (p : Nat → Nat) (M : Mem), hi < 5 → lo ≤ 5 → hi ≤ g + lo → g < f → Fr c54 M0 M → ORDm M p → (∀ M', Fr c54 M0 M' → ORDm M' (rvo g p lo hi) → K (nI 1) M' L) → PL_X4_nextOrder_93 K f v1 v2 (nI lo) (nI hi) M L := by
  intro f
  induction f with
  | zero => intro g lo hi p M h1 h2 h3 h4; omega
  | succ f ih =>
    intro g lo hi p M h1 h2 h3 h4 hF hO kk
    unfold PL_X4_nextOrder_93
    refine pk_le hi lo (fun c => ?_) (fun c => ⟨pk_in lo 5 (by omega), pk_in hi 5 (by omega), ?_⟩)
    · refine kk M hF ?_
      cases g with
      | zero => exact hO
      | succ g => unfold rvo; rw [if_pos c]; exact hO
    · cases g with
      | zero => omega
      | succ g =>
        obtain ⟨h1', h2'⟩ := hO.sw (a := lo) (b := hi) (by omega) (by omega)
        have e : nI hi + Int32.ofInt (-1) = nI (hi - 1) := by
          rw [dnI_a]; unfold dnI; rw [if_neg (by omega)]
        rw [nI_s, e]
        refine ih g (lo + 1) (hi - 1) _ _ (by omega) (by omega) (by omega) (by omega) (hF.tr h2') h1' (fun M' hF' hO' => kk M' hF' ?_)
        unfold rvo; rw [if_neg (by omega)]; exact hO'
theorem hl_next {M : Mem} {L : LMem} {K : Int32 → Mem → LMem → Prop} {n t : Nat} {p : Nat → Nat} (hn : n ≤ 5) (hM : M 49 7 = nI n) (hO : ORDm M p) (hp : ∀ i, i < 5 → p i < 5) (ht : t + 1 < n) (kk : ∀ M', Fr c54 M M' → ORDm M' (rvo 5 (swo p t (nEo p t (n - 1))) (t + 1) (n - 1)) → K (nI 1) M' L) :
    ∀ (f u : Nat), u < n → t + 1 ≤ u → u < f → nEo p t u = nEo p t (n - 1) → PL_X4_nextOrder_47 K f (nI t) (nI u) M L := by
  intro f
  induction f with
  | zero => intro u h1 h2 h3; omega
  | succ f ih =>
    intro u h1 h2 h3 he
    have fin : nEo p t (n - 1) = u → (vp_in (nI t) 5) ∧ ((vp_in (nI u) 5) ∧ PL_X4_nextOrder_93 K 100000 (nI t) (nI u) (nI (t + 1)) (((g_X4_swap M (nI t) (nI u)) 49 7) - (Int32.ofInt 1)) (g_X4_swap M (nI t) (nI u)) L) := fun e => by
      obtain ⟨h1', h2'⟩ := hO.sw (a := t) (b := u) (by omega) (by omega)
      have en' : (g_X4_swap M (nI t) (nI u)) 49 7 - Int32.ofInt 1 = nI (n - 1) := by
        rw [h2' 49 7 rfl, hM]; exact pk_sub (b := 1) (by omega)
      rw [en']
      refine ⟨pk_in t 5 (by omega), pk_in u 5 (by omega), hl_rv 100000 5 (t + 1) (n - 1) _ _ (by omega) (by omega) (by omega) (by omega) (Fr.rf _ _) h1' (fun M' hF' hO' => ?_)⟩
      rw [e] at kk
      exact kk M' (h2'.tr hF') hO'
    cases u with
    | zero => omega
    | succ u =>
      unfold PL_X4_nextOrder_47
      rw [nI_s]
      have he : (if u + 1 ≤ t + 1 then u + 1 else if p t ≤ p (u + 1) then u + 1 else nEo p t u) = nEo p t (n - 1) := he
      refine pk_le (u + 1) (t + 1) (fun c => fin (by rw [if_pos c] at he; exact he.symm)) (fun c => ⟨pk_in (u + 1) 5 (by omega), pk_in t 5 (by omega), ?_⟩)
      have e1 : (nI t).toNatClampNeg = t := nI_clamp (by omega)
      have e2 : (nI (u + 1)).toNatClampNeg = u + 1 := nI_clamp (by omega)
      have pt := hp t (by omega)
      have pu := hp (u + 1) (by omega)
      have e3 : nI (u + 1) + Int32.ofInt (-1) = nI u := by rw [dnI_a]; rfl
      rw [if_neg (by omega)] at he
      rw [e1, e2, hO t (by omega), hO (u + 1) (by omega), e3]
      refine pk_le _ _ (fun c2 => fin (by rw [if_pos c2] at he; exact he.symm)) (fun c2 => ih u (by omega) (by omega) (by omega) (by rw [if_neg (by omega)] at he; exact he)) rfl rfl (by omega) (by omega)
theorem hl_turn {M : Mem} {L : LMem} {K : Int32 → Mem → LMem → Prop} {n : Nat} {p : Nat → Nat} (hn : n ≤ 5) (hM : M 49 7 = nI n) (hO : ORDm M p) (hp : ∀ i, i < 5 → p i < 5) (kk0 : tuo p (n - 1) = 0 → K (nI 0) M L) (kk1 : ∀ t, tuo p (n - 1) = t + 1 → ∀ M', Fr c54 M M' → ORDm M' (rvo 5 (swo p t (nEo p t (n - 1))) (t + 1) (n - 1)) → K (nI 1) M' L) :
    ∀ (f t : Nat), t < n → t < f → tuo p t = tuo p (n - 1) → PL_X4_nextOrder_7 K f (dnI t) M L := by
  intro f
  induction f with
  | zero => intro t h1 h2; omega
  | succ f ih =>
    intro t h1 h2 he
    unfold PL_X4_nextOrder_7
    cases t with
    | zero => exact br_t dnI_0 (br_f (by decide) (kk0 he.symm))
    | succ t =>
      have e0 : dnI (t + 1) = nI t := rfl
      have e1 : (nI t).toNatClampNeg = t := nI_clamp (by omega)
      have e2 : (nI (t + 1)).toNatClampNeg = t + 1 := nI_clamp (by omega)
      have pt := hp t (by omega)
      have pu := hp (t + 1) (by omega)
      have en' : M 49 7 - Int32.ofInt 1 = nI (n - 1) := by rw [hM]; exact pk_sub (b := 1) (by omega)
      have he : (if p t ≤ p (t + 1) then t + 1 else tuo p t) = tuo p (n - 1) := he
      rw [e0, nI_s, e1, e2, hO t (by omega), hO (t + 1) (by omega), dnI_a, en']
      refine br_f (nI_pos (by omega)) ⟨pk_in t 5 (by omega), pk_in (t + 1) 5 (by omega), pk_le _ _ (fun c => ?_) (fun c => ?_) rfl rfl (by omega) (by omega)⟩
      · rw [if_pos c] at he
        refine br_t (nI_pos' (by omega)) ?_
        exact hl_next hn hM hO hp (by omega) (kk1 t he.symm) 100000 (n - 1) (by omega) (by omega) (by omega) rfl
      · rw [if_neg (by omega)] at he
        exact ih t (by omega) (by omega) he
theorem h_nextOrder {M : Mem} {L : LMem} {K : Int32 → Mem → LMem → Prop} {n : Nat} {p : Nat → Nat} (hn : n ≤ 5) (hM : M 49 7 = nI n) (hO : ORDm M p) (hp : ∀ i, i < 5 → p i < 5) (kk0 : nxo n p = none → K (nI 0) M L) (kk1 : ∀ q, nxo n p = some q → ∀ M', Fr c54 M M' → ORDm M' q → K (nI 1) M' L) : P_X4_nextOrder M L K := by
  unfold P_X4_nextOrder
  unfold nxo at kk0 kk1
  rw [hM]
  by_cases c : n < 2
  · rw [if_pos c] at kk0
    have hz : (nI n - Int32.ofInt 2) < 0 := by
      rcases (by omega : n = 0 ∨ n = 1) with e | e <;> subst e <;> decide
    have hz2 : ¬ 0 ≤ (nI n - Int32.ofInt 2) := by
      rcases (by omega : n = 0 ∨ n = 1) with e | e <;> subst e <;> decide
    show PL_X4_nextOrder_7 K (99999 + 1) _ M L
    unfold PL_X4_nextOrder_7
    exact br_t hz (br_f hz2 (kk0 rfl))
  · rw [if_neg c] at kk0 kk1
    have e : nI n - Int32.ofInt 2 = dnI (n - 1) := by
      unfold dnI
      rw [if_neg (by omega), show n - 1 - 1 = n - 2 by omega]
      exact pk_sub (b := 2) (by omega)
    rw [e]
    refine hl_turn hn hM hO hp (fun h => ?_) (fun t h M' hF' hO' => ?_) 100000 (n - 1) (by omega) (by omega) rfl
    · rw [h] at kk0; exact kk0 rfl
    · rw [h] at kk1; exact kk1 _ rfl M' hF' hO'

