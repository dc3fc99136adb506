/-! The start: the reference's constructor. -/
theorem zu1_id {α : Type} {f : Nat → α} {a : Nat} {v : α} (e : f a = v) : zu1 f a v = f := funext fun b => by
  unfold zu1
  by_cases c : b = a
  · rw [if_pos c, c, e]
  · rw [if_neg c]
theorem zup_id {α : Type} {f : Nat → Nat → α} {a k : Nat} {v : α} (e : f a k = v) : zup f a k v = f := funext fun b => funext fun j => by
  unfold zup
  by_cases c : b = a ∧ j = k
  · rw [if_pos c, c.1, c.2, e]
  · rw [if_neg c]
section MINIT
set_option maxRecDepth 1000000
set_option maxHeartbeats 10000000
end MINIT

