section RNLR
/-- what the law's run comes to: the call of sleeping -/
def rl_end (o : rn_O) : Bool := match o.2.2.2 with
  | .inr (.inr (p, _, [.inr (.inr (.inr (.inl 2)))], c, z)) => Nat.beq p 790 && Nat.ble c 2000 && Nat.ble z 20000
  | _ => false
theorem rl_run : ra_all rl_end (rn_run0 MM tg_x gen0 100000 12 70 ra_in) = true := by decide +kernel
end RNLR
