/-! G: the relation. eN bounds; eL what the last key left; eS the search; eC all that both sides keep; eP the component's picture of itself -/
abbrev eN (w hh rr n k hc nav dn kc ud ql : Nat) : Prop := (4 ≤ w ∧ w ≤ 16) ∧ (1 ≤ hh ∧ hh ≤ 8) ∧ (1 ≤ rr ∧ rr ≤ 4) ∧ (n ≤ 32 ∧ k ≤ n) ∧ (hc ≤ hh ∧ nav ≤ hc) ∧ dn ≤ 32 ∧ kc ≤ rr ∧ ud ≤ 8 ∧ ql ≤ 16
def eL (la kc n k y : Nat) (RL' : Nat → Int32) : Prop := la ≤ 3 ∧ (la = 2 → 1 ≤ kc ∧ ∃ s, RL' 0 = nI s ∧ s + n ≤ 32) ∧ (la = 3 → y < kc ∧ ∃ s, RL' y = nI s ∧ s ≤ k)
def eS (mo : Nat) (m : Int32) (hc ql p la : Nat) (H' HL' Q' : Nat → Int32) : Prop := (mo = 0 ∧ m = -1 ∧ ql = 0) ∨ (mo = 1 ∧ la = 0 ∧ ((m = -1 ∧ ql = 0) ∨ ∃ i l, m = nI i ∧ i < hc ∧ HL' i = nI l ∧ l ≤ 32 ∧ p + ql ≤ l ∧ ex H' Q' (i * 32 + p) ql))
def eC (w hh rr n k hc nav dn kc y ud mo la ql p : Nat) (m : Int32) (B H HL D R RL U UL UK Q B' H' HL' D' R' RL' U' UL' UK' Q' : Nat → Int32) : Prop :=
  eN w hh rr n k hc nav dn kc ud ql ∧ eg B B' 0 0 n ∧ eh H HL H' HL' hc ∧ eg D D' 0 0 dn ∧ ej R RL R' RL' kc ∧ eu U UL UK U' UL' UK' ud ∧ eg Q Q' 0 0 ql ∧ eL la kc n k y RL' ∧ eS mo m hc ql p la H' HL' Q'
def eP (w n k mo ql p : Nat) (m : Int32) (B H HL Q : Nat → Int32) (dl dc : Nat) (DS SC : Nat → Int32) : Prop :=
  dl ≤ 51 ∧ dc ≤ dl ∧ (∀ i, i < 16 * w → SC i = if i < dl then DS i else 32) ∧
  ((mo = 0 ∧ dl = 2 + n ∧ dc = 2 + k ∧ DS 0 = 62 ∧ DS 1 = 32 ∧ ∀ j, j < n → DS (2 + j) = B j) ∨
   (mo = 1 ∧ DS 0 = 63 ∧ (∀ j, j < ql → DS (1 + j) = Q j) ∧ DS (1 + ql) = 58 ∧ DS (2 + ql) = 32 ∧
    ((m = -1 ∧ dl = 3 + ql + n ∧ dc = 3 + ql + k ∧ ∀ j, j < n → DS (3 + ql + j) = B j) ∨
     ∃ i l, m = nI i ∧ i < 8 ∧ l ≤ 32 ∧ HL i = nI l ∧ dl = 3 + ql + l ∧ dc = 3 + ql + p ∧ ∀ j, j < l → DS (3 + ql + j) = H (i * 32 + j))))
section
variable {w hh rr n k hc nav dn kc y ud mo la ql p dl dc : Nat} {m ac xdl xdc xtr xtc : Int32} {B H HL D R RL U UL UK Q DS SC B' H' HL' D' R' RL' U' UL' UK' Q' : Nat → Int32}
/-- the component's state, the picture apart; the primed arrays are shadows -/
def eK (u : St2) : Prop := ∃ (w hh rr n k hc nav dn kc y ud mo la ql p : Nat) (m ac xdl xdc xtr xtc : Int32) (B H HL D R RL U UL UK Q DS SC B' H' HL' D' R' RL' U' UL' UK' Q' : Nat → Int32),
  u = (nI w, nI hh, nI rr, nI n, nI k, nI hc, nI nav, nI dn, nI kc, nI y, nI ud, nI mo, nI la, ac, nI ql, m, nI p, xdl, xdc, xtr, xtc, B, H, HL, D, R, RL, U, UL, UK, Q, DS, SC) ∧ eC w hh rr n k hc nav dn kc y ud mo la ql p m B H HL D R RL U UL UK Q B' H' HL' D' R' RL' U' UL' UK' Q'
def eI (u : St2) : Prop := ∃ (w hh rr n k hc nav dn kc y ud mo la ql p dl dc : Nat) (m ac : Int32) (B H HL D R RL U UL UK Q DS SC B' H' HL' D' R' RL' U' UL' UK' Q' : Nat → Int32),
  u = (nI w, nI hh, nI rr, nI n, nI k, nI hc, nI nav, nI dn, nI kc, nI y, nI ud, nI mo, nI la, ac, nI ql, m, nI p, nI dl, nI dc, nI (dc / w), nI (dc % w), B, H, HL, D, R, RL, U, UL, UK, Q, DS, SC) ∧ eC w hh rr n k hc nav dn kc y ud mo la ql p m B H HL D R RL U UL UK Q B' H' HL' D' R' RL' U' UL' UK' Q' ∧ eP w n k mo ql p m B H HL Q dl dc DS SC
theorem e_K (C : eC w hh rr n k hc nav dn kc y ud mo la ql p m B H HL D R RL U UL UK Q B' H' HL' D' R' RL' U' UL' UK' Q') : eK (nI w, nI hh, nI rr, nI n, nI k, nI hc, nI nav, nI dn, nI kc, nI y, nI ud, nI mo, nI la, ac, nI ql, m, nI p, xdl, xdc, xtr, xtc, B, H, HL, D, R, RL, U, UL, UK, Q, DS, SC) :=
  ⟨w, hh, rr, n, k, hc, nav, dn, kc, y, ud, mo, la, ql, p, m, ac, xdl, xdc, xtr, xtc, B, H, HL, D, R, RL, U, UL, UK, Q, DS, SC, B', H', HL', D', R', RL', U', UL', UK', Q', rfl, C⟩
theorem e_I (C : eC w hh rr n k hc nav dn kc y ud mo la ql p m B H HL D R RL U UL UK Q B' H' HL' D' R' RL' U' UL' UK' Q') (P : eP w n k mo ql p m B H HL Q dl dc DS SC) : eI (nI w, nI hh, nI rr, nI n, nI k, nI hc, nI nav, nI dn, nI kc, nI y, nI ud, nI mo, nI la, ac, nI ql, m, nI p, nI dl, nI dc, nI (dc / w), nI (dc % w), B, H, HL, D, R, RL, U, UL, UK, Q, DS, SC) :=
  ⟨w, hh, rr, n, k, hc, nav, dn, kc, y, ud, mo, la, ql, p, dl, dc, m, ac, B, H, HL, D, R, RL, U, UL, UK, Q, DS, SC, B', H', HL', D', R', RL', U', UL', UK', Q', rfl, C, P⟩
def eG (r : Int32) (u : St2) : Prop := (r = 1 ∧ eK u) ∨ (r = 0 ∧ eI u)
def eO (WX : (Int32 → St2 → Prop) → Prop) : Prop := ∃ (r : Int32) (u : St2), eG r u ∧ (∀ post, post r u → WX post)
theorem eO_1 {WX : (Int32 → St2 → Prop) → Prop} (u : St2) (h : eK u) (x : ∀ post, post 1 u → WX post) : eO WX := ⟨1, u, Or.inl ⟨rfl, h⟩, x⟩
theorem eO_0 {WX : (Int32 → St2 → Prop) → Prop} (u : St2) (h : eI u) (x : ∀ post, post 0 u → WX post) : eO WX := ⟨0, u, Or.inr ⟨rfl, h⟩, x⟩
theorem eO_n {WX VX : (Int32 → St2 → Prop) → Prop} (h : eO WX) (x : ∀ post r u, (∀ q, q r u → WX q) → post r u → VX post) : eO VX := by
  obtain ⟨r, u, g, hx⟩ := h
  exact ⟨r, u, g, fun post hp => x post r u hx hp⟩
/-- what a key other than a kill or a yank leaves -/
theorem eL_0 {kc n k y : Nat} {RL' : Nat → Int32} : eL 0 kc n k y RL' := ⟨by omega, fun h => absurd h (by omega), fun h => absurd h (by omega)⟩
theorem eL_1 {kc n k y : Nat} {RL' : Nat → Int32} : eL 1 kc n k y RL' := ⟨by omega, fun h => absurd h (by omega), fun h => absurd h (by omega)⟩
theorem eL_2 {kc n k y s : Nat} {RL' : Nat → Int32} (hk : 1 ≤ kc) (h : RL' 0 = nI s) (hs : s + n ≤ 32) : eL 2 kc n k y RL' := ⟨by omega, fun _ => ⟨hk, s, h, hs⟩, fun h => absurd h (by omega)⟩
theorem eL_3 {kc n k y s : Nat} {RL' : Nat → Int32} (hk : y < kc) (h : RL' y = nI s) (hs : s ≤ k) : eL 3 kc n k y RL' := ⟨by omega, fun h => absurd h (by omega), fun _ => ⟨hk, s, h, hs⟩⟩
/-- the slot of the ring's entry i -/
theorem ej_at {F L G M : Nat → Int32} {c i : Nat} (h : ej F L G M c) (hi : i < c) : ∃ l, l ≤ 32 ∧ L (c - 1 - i) = nI l ∧ M i = nI l ∧ eg F G ((c - 1 - i) * 32) (i * 32) l := h i hi
end
