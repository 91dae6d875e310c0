-- links and words of the tables (written by gen/w.py)
def xm_is (pos : Nat) (w : Jvm.Cond) : Bool := decide (lw_tbl[pos]? = some w) && xgw w
def xm_cT (b : Nat) : vw_C := xm_ix ("", fun _ => ("", "", "", false), 0) xm_cl (xm_nth xm_cis b)
def xm_fb (own : String) (idx a b pos : Nat) : Bool := xm_is pos (.fieldLink own idx ((xm_cT b).2.1 a).1 ((xm_cT b).2.1 a).2.1 ((xm_cT b).2.1 a).2.2.1) || xm_is pos (.fieldLinkNest own idx ((xm_cT b).2.1 a).1 ((xm_cT b).2.1 a).2.1 ((xm_cT b).2.1 a).2.2.1 "LayerFeeder")
def xm_mb (a : Nat) : Bool := plainFor (xm_mn a) && (decide ((xm_mn a).cls ≠ "java/lang/invoke/MethodHandle") && (decide ((xm_mn a).cls ≠ "java/lang/invoke/VarHandle") && (xm_is (xm_mp a).2.2.2 (.initialized (xm_mn a).cls) && (bif Nat.beq (xm_rk a) 99 then xm_is (xm_mp a).2.1 (.static (xm_mn a)) else (xm_is (xm_mp a).2.1 (.instanceMethod (xm_mn a)) && xm_is (xm_mp a).2.2.1 (.selects (xm_mn a).cls (xm_mn a) (xm_mn a)))))))
def xm_lkb (k : Nat) (r : xm_Row) : Bool := match r.2.1 with
  | .ldc idx => bif Nat.beq r.2.2.2.1 0 then xm_is r.2.2.2.2.2.2.toNatClampNeg (.constant (xm_mn k).cls idx r.2.2.2.2.2.1) else (decide ((xm_mn k).cls = "LayerFeeder" ∧ idx = 239) || decide ((xm_mn k).cls = "LayerFeeder$Command" ∧ idx = 46))
  | .ldc2_w idx => xm_is r.2.2.2.2.1 (.constantLong (xm_mn k).cls idx r.2.2.2.2.2.2)
  | .getfield idx => xm_fb (xm_mn k).cls idx r.2.2.2.1 r.2.2.2.2.1 r.2.2.2.2.2.2.toNatClampNeg
  | .putfield idx => xm_fb (xm_mn k).cls idx r.2.2.2.1 r.2.2.2.2.1 r.2.2.2.2.2.2.toNatClampNeg && !((xm_cT r.2.2.2.2.1).2.1 r.2.2.2.1).2.2.2
  | .invokestatic idx => bif Nat.ble 200 r.2.2.2.1 then xm_is r.2.2.2.2.2.2.toNatClampNeg (.methodLink (xm_mn k).cls idx arraycopyName) else
      (xm_is r.2.2.2.2.2.2.toNatClampNeg (.methodLink (xm_mn k).cls idx (xm_mn r.2.2.2.1)) && (decide ((parseMethodDescriptor (xm_mn r.2.2.2.1).desc).map (fun d => d.parameters.length) = some r.2.2.2.2.1) && (decide (xm_fr r.2.2.2.1 + 1 ≤ xm_fr k ∧ 8 + (xm_ml r.2.2.2.1 + 11) + xm_lo r.2.2.2.1 ≤ xm_lo k) && (Nat.beq (xm_rk r.2.2.2.1) 99 && Nat.ble (r.2.2.2.1 + 1) 145))))
  | .invokevirtual idx => bif Nat.ble 200 r.2.2.2.1 then true else
      (xm_is r.2.2.2.2.2.2.toNatClampNeg (.methodLink (xm_mn k).cls idx (xm_mn r.2.2.2.1)) && (decide ((parseMethodDescriptor (xm_mn r.2.2.2.1).desc).map (fun d => d.parameters.length + 1) = some r.2.2.2.2.1) && (decide (xm_fr r.2.2.2.1 + 1 ≤ xm_fr k ∧ 8 + (xm_ml r.2.2.2.1 + 11) + xm_lo r.2.2.2.1 ≤ xm_lo k) && (decide (xm_nth xm_ak (xm_rk r.2.2.2.1) = 0 ∧ xm_rk r.2.2.2.1 < 19 ∧ (xm_cT (xm_rk r.2.2.2.1)).1 = (xm_mn r.2.2.2.1).cls) && Nat.ble (r.2.2.2.1 + 1) 145))))
  | _ => true
def xm_lok (k : Nat) : Bool := (xm_rw k).all fun c => c.all (xm_lkb k)
