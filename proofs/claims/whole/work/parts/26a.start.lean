/-! class and reference side by side; the start -/
theorem zrow.lo {A : zAS} {ch j k l : Nat} {bc : Bool} {σ σ' : zST} (h : zrow A ch j bc k l σ) (hz : zlo σ σ') (hj : j + 7 < 48) : zrow A ch j bc k l σ' := by
  obtain ⟨h1, h2, h3, h4, h5, h6, h7⟩ := h
  have e0 := hz j (by omega)
  have e1 := hz (j + 1) (by omega)
  have e2 := hz (j + 1 + 1) (by omega)
  have e5 := hz (j + 5) (by omega)
  have e6 := hz (j + 6) (by omega)
  unfold zrow
  rw [e0, e5, e6]
  exact ⟨h1, h2, h3, h4, h5, h6.agr e1 e2, h7⟩
theorem zri.lo {A : zAS} {ch j : Nat} {bc : Bool} {σ σ' : zST} (h : zri A ch j bc σ) (hz : zlo σ σ') (hj : j + 7 < 48) : zri A ch j bc σ' := by
  have e := hz j (by omega)
  obtain ⟨q1, q2, q3⟩ := h
  refine ⟨by rw [e]; exact q1, by rw [e]; exact q2, fun h => ?_⟩
  rw [e] at h
  obtain ⟨k, l, g1, g2, g3⟩ := q3 h
  exact ⟨k, l, g1, g2, g3.lo hz hj⟩
theorem zCI.lo {A : zAS} {ch : Nat} {rf : Nat → Int32} {σ σ' : zST} (h : zCI A ch rf σ) (hz : zlo σ σ') : zCI A ch rf σ' := by
  obtain ⟨h1, h2, h3, h4, h5, h6, h7, h8, h9⟩ := h
  refine ⟨?_, h2.lo hz (by decide), h3.lo hz (by decide), h4.lo hz (by decide), h5.agr (hz _ (by decide)) (hz _ (by decide)), h6.agr (hz _ (by decide)) (hz _ (by decide)), h7.agr (hz _ (by decide)) (hz _ (by decide)), h8.agr (hz _ (by decide)) (hz _ (by decide)) (hz _ (by decide)) (hz _ (by decide)), fun i hi => by rw [hz 47 (by decide)]; exact h9 i hi⟩
  unfold zcf
  rw [hz 1 (by decide), hz 2 (by decide), hz 3 (by decide), hz 4 (by decide), hz 5 (by decide), hz 6 (by decide)]
  exact h1
theorem zmf.hi {A : zAS} {rf : Nat → Int32} {σ σ' : zST} (h : zmf A rf σ) (hz : zhi σ σ') : zmf A rf σ' := by
  unfold zmf
  rw [hz 48 (by decide), hz 49 (by decide), hz 50 (by decide), hz 51 (by decide), hz 52 (by decide), hz 53 (by decide)]
  exact h
/-- all cells as the constructors leave them -/
def zs0 : zST := fun j => match j with
  | 7 => fun k => match k with | 8 => -1 | _ => 0
  | 15 => fun k => match k with | 5 => 1 | 8 => -1 | _ => 0
  | 23 => fun k => match k with | 8 => -1 | _ => 0
  | 31 => fun k => match k with | 4 => -1 | _ => 0
  | 34 => fun k => match k with | 3 => -1 | _ => 0
  | 40 => fun k => match k with | 4 => -1 | _ => 0
  | 42 => fun k => match k with | 7 => -1 | _ => 0
  | _ => fun _ => 0
def zA0 : zAS := (0, 0, fun _ => 0, fun _ => 0, fun _ => 0, fun _ => false)
theorem zCI0 : zCI zA0 0 (fun _ => 0) zs0 := by
  have n1 : ¬ (-1 : Int32) = nI 0 := by decide
  refine ⟨⟨⟨by decide, by decide, fun x hx => absurd hx (Nat.not_lt_zero x)⟩, by decide, rfl, rfl, rfl, rfl, fun x hx => absurd hx (Nat.not_lt_zero x), fun u hu w hw => ⟨fun h => ?_, fun ⟨x, hx, _⟩ => absurd hx (Nat.not_lt_zero x)⟩⟩, ⟨rfl, Or.inl rfl, fun h => absurd h n1⟩, ⟨rfl, Or.inl rfl, fun h => absurd h n1⟩, ⟨rfl, Or.inl rfl, fun h => absurd h n1⟩, ⟨Or.inl rfl, fun h => absurd h n1⟩, ⟨Or.inl rfl, fun h => absurd h n1⟩, ⟨Or.inl rfl, fun h => absurd h n1⟩, ⟨Or.inl rfl, fun h => absurd h n1⟩, fun i hi => rfl⟩
  have e : bt (zs0 6 u) w = false := b_0 w
  rw [e] at h; cases h
theorem zmf0 : zmf zA0 (fun _ => 0) zs0 := ⟨⟨by decide, by decide, fun x hx => absurd hx (Nat.not_lt_zero x)⟩, rfl, rfl, fun x hx => absurd hx (Nat.not_lt_zero x), fun i hi => rfl⟩
set_option maxRecDepth 100000 in
set_option maxHeartbeats 16000000 in
theorem zWL0 (E : zEN) (h1 h2 : Nat) (u1 u2 : Nat → Nat) : zWL (E.1, (fun j => if j = 0 then h1 else if j < 48 then u1 j else if j = 48 then h2 else u2 (j - 48)), E.2.2) zs0 = zw7 E h1 u1 ++ zw8 E h2 u2 := rfl
