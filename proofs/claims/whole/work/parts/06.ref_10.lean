def wp_fault (R : RS) (K : Int32 → RS → Prop) : Prop := K ((up R 0 0 0) 0 51) (up R 0 0 0)
set_option maxHeartbeats 4000000 in
set_option maxRecDepth 100000 in
theorem ok_fault {G : RG} (hok : okG G) {R : RS} {K : Int32 → RS → Prop} (hw : wp_fault R K) : CF 0 yX12_fault cX12_fault 1 (some .int) [.ref G.2.2.1] G R K := by
  refine CF.of (by decide +kernel) hok (Nat.le_of_ble_eq_true rfl) (fun X hc hr => ?_)
  show MR G X 1 R 0 [(0, .ref G.2.2.1)] []
  unfold wp_fault at hw
  refine m_aload_n hc 0 dX12_fault_0 rfl rfl ?_
  refine m_iconst hc 0 dX12_fault_1 (by decide) ?_
  refine r_put hc hr 0 dX12_fault_2 lf_X12_116 (Nat.le_of_ble_eq_true rfl) rfl rfl (by decide +kernel) ?_
  refine m_aload_n hc 0 dX12_fault_5 rfl rfl ?_
  refine r_geti hc hr 51 dX12_fault_6 lf_X12_113 (Nat.le_of_ble_eq_true rfl) rfl ?_
  exact r_iret hc hr dX12_fault_9 hw
