/-- the component's set of all cells is the reference's -/
theorem tkp_tk {wl nb : Nat} {sh ps : Nat → Nat} (hn7 : nb ≤ 7) (hps : ∀ b, b < nb → ps b < 32) : ∀ n, n ≤ nb → tkp wl sh ps n = tk wl sh (pkey ps nb) (fun _ => false) n
  | 0, _ => rfl
  | n + 1, h => by
    show tkp wl sh ps n ||| sh n <<< ps n = (if false = true then _ else _)
    rw [if_neg (by decide), tkp_tk hn7 hps n (by omega), plc_pkey hn7 hps n (by omega)]
