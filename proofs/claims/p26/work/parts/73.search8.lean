/-! the search of the reference -/
section S9
variable {F n c : Nat} {mw mh mg : Int32} {mW : Nat → Int32} {nb : Nat → Nat → Option Nat} {wl : Nat → Nat → Bool} {Wy : Nat → Nat → Option Nat} {T a : Nat → Nat} {Yl : Nat → Int32}
end S9
theorem kl_le {σ τ : Type} {f : σ → Option (σ ⊕ τ)} {Q : τ → Prop} : ∀ {K K' : Nat} {s : σ}, K ≤ K' → Ex (kloop K f s) Q → Ex (kloop K' f s) Q
  | 0, _, s, _, h => by obtain ⟨r, h, -⟩ := h; cases h
  | K + 1, 0, s, hk, _ => absurd hk (Nat.not_succ_le_zero K)
  | K + 1, K' + 1, s, hk, h => by
    obtain ⟨r, h1, h2⟩ := h
    have h1 : (f s).bind _ = some r := h1
    obtain ⟨x, e, h1⟩ := ob h1
    show Ex ((f s).bind _) Q
    rw [e]
    cases x with
    | inl a => exact kl_le (by omega) ⟨r, h1, h2⟩
    | inr b => exact ⟨r, h1, h2⟩
theorem kl_step {σ τ : Type} {f : σ → Option (σ ⊕ τ)} {Q : τ → Prop} {K : Nat} {s : σ} (h : Ex (f s) (onS (fun s' => Ex (kloop K f s') Q) Q)) : Ex (kloop (K + 1) f s) Q := by
  obtain ⟨x, e, h⟩ := h
  show Ex ((f s).bind _) Q
  rw [e]
  cases x with
  | inl a => exact h
  | inr b => exact ⟨b, rfl, h⟩
/-- rounds enough for m cells -/
def rdsB : Nat → Nat
  | 0 => 0
  | m + 1 => 4 * (rdsB m + 1) + 1
section S10
variable {F n : Nat} {mw mh mg : Int32} {mW mK : Nat → Int32} {nb : Nat → Nat → Option Nat} {wl : Nat → Nat → Bool} {Wy : Nat → Nat → Option Nat} {T : Nat → Nat} {lm : Nat}
theorem ownM_tb {t k : Nat} (b : Bool) (ht : t < 16) (hk : k < 4) : (ownM t b).testBit k = decide (k < laysN t b) := by
  have h : ∀ t, t < 16 → ∀ b : Bool, ∀ k, k < 4 → (ownM t b).testBit k = decide (k < laysN t b) := by decide +kernel
  exact h t ht b k hk
theorem iter_up {σ : Type} {f : Nat → σ → σ} {s : σ} {k : Nat} (h : ∀ i s, k ≤ i → i < 4 → f i s = s) : ∀ j, k + j ≤ 4 → iter f (k + j) s = iter f k s
  | 0, _ => rfl
  | j + 1, hj => by
    show f (k + j) (iter f (k + j) s) = _
    rw [h (k + j) _ (by omega) (by omega), iter_up h j (by omega)]
end S10
