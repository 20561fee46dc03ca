/-! ===== know, call, told, tried, forget ===== -/
def sCu (s : Stt) (a b m d : Nat) : Stt := (s.1, fup s.2.1 2 (sG s 2 + 1), s.2.2.1, fun f c => if c = sG s 2 then (if f = 0 then a else if f = 1 then b else if f = 2 then m else d) else s.2.2.2 f c)
theorem sCu_w (s : Stt) (a b m d : Nat) : sG (sCu s a b m d) 2 = sG s 2 + 1 := fup_s s.2.1 2 _
theorem sCu_g (s : Stt) (a b m d : Nat) {i : Nat} (h : i ≠ 2) : sG (sCu s a b m d) i = sG s i := fup_n h
theorem sCu_o (s : Stt) (a b m d f : Nat) {c : Nat} (h : c ≠ sG s 2) : sC (sCu s a b m d) f c = sC s f c := if_neg h
theorem sCu_n (s : Stt) (a b m d f : Nat) : sC (sCu s a b m d) f (sG s 2) = (if f = 0 then a else if f = 1 then b else if f = 2 then m else d) := if_pos rfl
