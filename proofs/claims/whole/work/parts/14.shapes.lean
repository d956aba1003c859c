/-! the shapes of the objects -/
def TX0s (kd : pm_K) (mr : pm_R) (h : Nat) : Prop := kd[h]? = some (0, 0) ∧ mr h 6 = some (h + 1) ∧ kd[h + 1]? = some (1, 6) ∧ mr h 7 = some (h + 2) ∧ kd[h + 2]? = some (1, 6) ∧ mr h 8 = some (h + 3) ∧ kd[h + 3]? = some (1, 6) ∧ mr h 9 = some (h + 4) ∧ kd[h + 4]? = some (1, 6) ∧ mr h 10 = some (h + 5) ∧ kd[h + 5]? = some (1, 4)
theorem TX0s_k {kd : pm_K} {mr : pm_R} {h : Nat} (t : TX0s kd mr h) : kd[h]? = some (0, 0) := t.1
theorem TX0s_r6 {kd : pm_K} {mr : pm_R} {h : Nat} (t : TX0s kd mr h) : mr h 6 = some (h + 1) := t.2.1
theorem TX0s_a6 {kd : pm_K} {mr : pm_R} {h : Nat} (t : TX0s kd mr h) : kd[h + 1]? = some (1, 6) := t.2.2.1
theorem TX0s_r7 {kd : pm_K} {mr : pm_R} {h : Nat} (t : TX0s kd mr h) : mr h 7 = some (h + 2) := t.2.2.2.1
theorem TX0s_a7 {kd : pm_K} {mr : pm_R} {h : Nat} (t : TX0s kd mr h) : kd[h + 2]? = some (1, 6) := t.2.2.2.2.1
theorem TX0s_r8 {kd : pm_K} {mr : pm_R} {h : Nat} (t : TX0s kd mr h) : mr h 8 = some (h + 3) := t.2.2.2.2.2.1
theorem TX0s_a8 {kd : pm_K} {mr : pm_R} {h : Nat} (t : TX0s kd mr h) : kd[h + 3]? = some (1, 6) := t.2.2.2.2.2.2.1
theorem TX0s_r9 {kd : pm_K} {mr : pm_R} {h : Nat} (t : TX0s kd mr h) : mr h 9 = some (h + 4) := t.2.2.2.2.2.2.2.1
theorem TX0s_a9 {kd : pm_K} {mr : pm_R} {h : Nat} (t : TX0s kd mr h) : kd[h + 4]? = some (1, 6) := t.2.2.2.2.2.2.2.2.1
theorem TX0s_r10 {kd : pm_K} {mr : pm_R} {h : Nat} (t : TX0s kd mr h) : mr h 10 = some (h + 5) := t.2.2.2.2.2.2.2.2.2.1
theorem TX0s_a10 {kd : pm_K} {mr : pm_R} {h : Nat} (t : TX0s kd mr h) : kd[h + 5]? = some (1, 4) := t.2.2.2.2.2.2.2.2.2.2
def TX6s (kd : pm_K) (mr : pm_R) (h : Nat) : Prop := kd[h]? = some (0, 6) ∧ mr h 0 = some (h + 1) ∧ kd[h + 1]? = some (1, 40) ∧ mr h 1 = some (h + 2) ∧ kd[h + 2]? = some (1, 40) ∧ mr h 2 = some (h + 3) ∧ kd[h + 3]? = some (1, 40)
theorem TX6s_k {kd : pm_K} {mr : pm_R} {h : Nat} (t : TX6s kd mr h) : kd[h]? = some (0, 6) := t.1
theorem TX6s_r0 {kd : pm_K} {mr : pm_R} {h : Nat} (t : TX6s kd mr h) : mr h 0 = some (h + 1) := t.2.1
theorem TX6s_a0 {kd : pm_K} {mr : pm_R} {h : Nat} (t : TX6s kd mr h) : kd[h + 1]? = some (1, 40) := t.2.2.1
theorem TX6s_r1 {kd : pm_K} {mr : pm_R} {h : Nat} (t : TX6s kd mr h) : mr h 1 = some (h + 2) := t.2.2.2.1
theorem TX6s_a1 {kd : pm_K} {mr : pm_R} {h : Nat} (t : TX6s kd mr h) : kd[h + 2]? = some (1, 40) := t.2.2.2.2.1
theorem TX6s_r2 {kd : pm_K} {mr : pm_R} {h : Nat} (t : TX6s kd mr h) : mr h 2 = some (h + 3) := t.2.2.2.2.2.1
theorem TX6s_a2 {kd : pm_K} {mr : pm_R} {h : Nat} (t : TX6s kd mr h) : kd[h + 3]? = some (1, 40) := t.2.2.2.2.2.2
def TX10s (kd : pm_K) (mr : pm_R) (h : Nat) : Prop := kd[h]? = some (0, 10) ∧ mr h 2 = some (h + 1) ∧ TX6s kd mr (h + 1)
theorem TX10s_k {kd : pm_K} {mr : pm_R} {h : Nat} (t : TX10s kd mr h) : kd[h]? = some (0, 10) := t.1
theorem TX10s_r2 {kd : pm_K} {mr : pm_R} {h : Nat} (t : TX10s kd mr h) : mr h 2 = some (h + 1) := t.2.1
theorem TX10s_a2 {kd : pm_K} {mr : pm_R} {h : Nat} (t : TX10s kd mr h) : TX6s kd mr (h + 1) := t.2.2
def TX7s (kd : pm_K) (mr : pm_R) (h : Nat) : Prop := kd[h]? = some (0, 7) ∧ mr h 0 = some (h + 1) ∧ kd[h + 1]? = some (2, 57)
theorem TX7s_k {kd : pm_K} {mr : pm_R} {h : Nat} (t : TX7s kd mr h) : kd[h]? = some (0, 7) := t.1
theorem TX7s_r0 {kd : pm_K} {mr : pm_R} {h : Nat} (t : TX7s kd mr h) : mr h 0 = some (h + 1) := t.2.1
theorem TX7s_a0 {kd : pm_K} {mr : pm_R} {h : Nat} (t : TX7s kd mr h) : kd[h + 1]? = some (2, 57) := t.2.2
def TX1s (kd : pm_K) (mr : pm_R) (h : Nat) : Prop := kd[h]? = some (0, 1) ∧ mr h 0 = some (h + 1) ∧ TX7s kd mr (h + 1) ∧ mr h 1 = some (h + 3) ∧ kd[h + 3]? = some (2, 6) ∧ mr h 2 = some (h + 4) ∧ kd[h + 4]? = some (1, 64) ∧ mr h 3 = some (h + 5) ∧ kd[h + 5]? = some (2, 64)
theorem TX1s_k {kd : pm_K} {mr : pm_R} {h : Nat} (t : TX1s kd mr h) : kd[h]? = some (0, 1) := t.1
theorem TX1s_r0 {kd : pm_K} {mr : pm_R} {h : Nat} (t : TX1s kd mr h) : mr h 0 = some (h + 1) := t.2.1
theorem TX1s_a0 {kd : pm_K} {mr : pm_R} {h : Nat} (t : TX1s kd mr h) : TX7s kd mr (h + 1) := t.2.2.1
theorem TX1s_r1 {kd : pm_K} {mr : pm_R} {h : Nat} (t : TX1s kd mr h) : mr h 1 = some (h + 3) := t.2.2.2.1
theorem TX1s_a1 {kd : pm_K} {mr : pm_R} {h : Nat} (t : TX1s kd mr h) : kd[h + 3]? = some (2, 6) := t.2.2.2.2.1
theorem TX1s_r2 {kd : pm_K} {mr : pm_R} {h : Nat} (t : TX1s kd mr h) : mr h 2 = some (h + 4) := t.2.2.2.2.2.1
theorem TX1s_a2 {kd : pm_K} {mr : pm_R} {h : Nat} (t : TX1s kd mr h) : kd[h + 4]? = some (1, 64) := t.2.2.2.2.2.2.1
theorem TX1s_r3 {kd : pm_K} {mr : pm_R} {h : Nat} (t : TX1s kd mr h) : mr h 3 = some (h + 5) := t.2.2.2.2.2.2.2.1
theorem TX1s_a3 {kd : pm_K} {mr : pm_R} {h : Nat} (t : TX1s kd mr h) : kd[h + 5]? = some (2, 64) := t.2.2.2.2.2.2.2.2
def TX3s (kd : pm_K) (mr : pm_R) (h : Nat) : Prop := kd[h]? = some (0, 3) ∧ mr h 0 = some (h + 1) ∧ TX7s kd mr (h + 1) ∧ mr h 1 = some (h + 3) ∧ kd[h + 3]? = some (1, 6) ∧ mr h 2 = some (h + 4) ∧ kd[h + 4]? = some (1, 6) ∧ mr h 3 = some (h + 5) ∧ kd[h + 5]? = some (1, 6) ∧ mr h 4 = some (h + 6) ∧ kd[h + 6]? = some (1, 6)
theorem TX3s_k {kd : pm_K} {mr : pm_R} {h : Nat} (t : TX3s kd mr h) : kd[h]? = some (0, 3) := t.1
theorem TX3s_r0 {kd : pm_K} {mr : pm_R} {h : Nat} (t : TX3s kd mr h) : mr h 0 = some (h + 1) := t.2.1
theorem TX3s_a0 {kd : pm_K} {mr : pm_R} {h : Nat} (t : TX3s kd mr h) : TX7s kd mr (h + 1) := t.2.2.1
theorem TX3s_r1 {kd : pm_K} {mr : pm_R} {h : Nat} (t : TX3s kd mr h) : mr h 1 = some (h + 3) := t.2.2.2.1
theorem TX3s_a1 {kd : pm_K} {mr : pm_R} {h : Nat} (t : TX3s kd mr h) : kd[h + 3]? = some (1, 6) := t.2.2.2.2.1
theorem TX3s_r2 {kd : pm_K} {mr : pm_R} {h : Nat} (t : TX3s kd mr h) : mr h 2 = some (h + 4) := t.2.2.2.2.2.1
theorem TX3s_a2 {kd : pm_K} {mr : pm_R} {h : Nat} (t : TX3s kd mr h) : kd[h + 4]? = some (1, 6) := t.2.2.2.2.2.2.1
theorem TX3s_r3 {kd : pm_K} {mr : pm_R} {h : Nat} (t : TX3s kd mr h) : mr h 3 = some (h + 5) := t.2.2.2.2.2.2.2.1
theorem TX3s_a3 {kd : pm_K} {mr : pm_R} {h : Nat} (t : TX3s kd mr h) : kd[h + 5]? = some (1, 6) := t.2.2.2.2.2.2.2.2.1
theorem TX3s_r4 {kd : pm_K} {mr : pm_R} {h : Nat} (t : TX3s kd mr h) : mr h 4 = some (h + 6) := t.2.2.2.2.2.2.2.2.2.1
theorem TX3s_a4 {kd : pm_K} {mr : pm_R} {h : Nat} (t : TX3s kd mr h) : kd[h + 6]? = some (1, 6) := t.2.2.2.2.2.2.2.2.2.2
def TX8s (kd : pm_K) (mr : pm_R) (h : Nat) : Prop := kd[h]? = some (0, 8) ∧ mr h 0 = some (h + 1) ∧ kd[h + 1]? = some (1, 128) ∧ mr h 1 = some (h + 2) ∧ kd[h + 2]? = some (1, 128) ∧ mr h 2 = some (h + 3) ∧ kd[h + 3]? = some (2, 4) ∧ mr h 5 = some (h + 4) ∧ kd[h + 4]? = some (1, 7) ∧ mr h 6 = some (h + 5) ∧ kd[h + 5]? = some (1, 49) ∧ mr h 7 = some (h + 6) ∧ kd[h + 6]? = some (1, 384)
theorem TX8s_k {kd : pm_K} {mr : pm_R} {h : Nat} (t : TX8s kd mr h) : kd[h]? = some (0, 8) := t.1
theorem TX8s_r0 {kd : pm_K} {mr : pm_R} {h : Nat} (t : TX8s kd mr h) : mr h 0 = some (h + 1) := t.2.1
theorem TX8s_a0 {kd : pm_K} {mr : pm_R} {h : Nat} (t : TX8s kd mr h) : kd[h + 1]? = some (1, 128) := t.2.2.1
theorem TX8s_r1 {kd : pm_K} {mr : pm_R} {h : Nat} (t : TX8s kd mr h) : mr h 1 = some (h + 2) := t.2.2.2.1
theorem TX8s_a1 {kd : pm_K} {mr : pm_R} {h : Nat} (t : TX8s kd mr h) : kd[h + 2]? = some (1, 128) := t.2.2.2.2.1
theorem TX8s_r2 {kd : pm_K} {mr : pm_R} {h : Nat} (t : TX8s kd mr h) : mr h 2 = some (h + 3) := t.2.2.2.2.2.1
theorem TX8s_a2 {kd : pm_K} {mr : pm_R} {h : Nat} (t : TX8s kd mr h) : kd[h + 3]? = some (2, 4) := t.2.2.2.2.2.2.1
theorem TX8s_r5 {kd : pm_K} {mr : pm_R} {h : Nat} (t : TX8s kd mr h) : mr h 5 = some (h + 4) := t.2.2.2.2.2.2.2.1
theorem TX8s_a5 {kd : pm_K} {mr : pm_R} {h : Nat} (t : TX8s kd mr h) : kd[h + 4]? = some (1, 7) := t.2.2.2.2.2.2.2.2.1
theorem TX8s_r6 {kd : pm_K} {mr : pm_R} {h : Nat} (t : TX8s kd mr h) : mr h 6 = some (h + 5) := t.2.2.2.2.2.2.2.2.2.1
theorem TX8s_a6 {kd : pm_K} {mr : pm_R} {h : Nat} (t : TX8s kd mr h) : kd[h + 5]? = some (1, 49) := t.2.2.2.2.2.2.2.2.2.2.1
theorem TX8s_r7 {kd : pm_K} {mr : pm_R} {h : Nat} (t : TX8s kd mr h) : mr h 7 = some (h + 6) := t.2.2.2.2.2.2.2.2.2.2.2.1
theorem TX8s_a7 {kd : pm_K} {mr : pm_R} {h : Nat} (t : TX8s kd mr h) : kd[h + 6]? = some (1, 384) := t.2.2.2.2.2.2.2.2.2.2.2.2
def TX2s (kd : pm_K) (mr : pm_R) (h : Nat) : Prop := kd[h]? = some (0, 2) ∧ mr h 0 = some (h + 1) ∧ kd[h + 1]? = some (1, 4096) ∧ mr h 1 = some (h + 2) ∧ kd[h + 2]? = some (1, 4096) ∧ mr h 2 = some (h + 3) ∧ kd[h + 3]? = some (1, 4096) ∧ mr h 3 = some (h + 4) ∧ kd[h + 4]? = some (1, 256) ∧ mr h 4 = some (h + 5) ∧ kd[h + 5]? = some (2, 64) ∧ mr h 5 = some (h + 6) ∧ kd[h + 6]? = some (2, 64)
theorem TX2s_k {kd : pm_K} {mr : pm_R} {h : Nat} (t : TX2s kd mr h) : kd[h]? = some (0, 2) := t.1
theorem TX2s_r0 {kd : pm_K} {mr : pm_R} {h : Nat} (t : TX2s kd mr h) : mr h 0 = some (h + 1) := t.2.1
theorem TX2s_a0 {kd : pm_K} {mr : pm_R} {h : Nat} (t : TX2s kd mr h) : kd[h + 1]? = some (1, 4096) := t.2.2.1
theorem TX2s_r1 {kd : pm_K} {mr : pm_R} {h : Nat} (t : TX2s kd mr h) : mr h 1 = some (h + 2) := t.2.2.2.1
theorem TX2s_a1 {kd : pm_K} {mr : pm_R} {h : Nat} (t : TX2s kd mr h) : kd[h + 2]? = some (1, 4096) := t.2.2.2.2.1
theorem TX2s_r2 {kd : pm_K} {mr : pm_R} {h : Nat} (t : TX2s kd mr h) : mr h 2 = some (h + 3) := t.2.2.2.2.2.1
theorem TX2s_a2 {kd : pm_K} {mr : pm_R} {h : Nat} (t : TX2s kd mr h) : kd[h + 3]? = some (1, 4096) := t.2.2.2.2.2.2.1
theorem TX2s_r3 {kd : pm_K} {mr : pm_R} {h : Nat} (t : TX2s kd mr h) : mr h 3 = some (h + 4) := t.2.2.2.2.2.2.2.1
theorem TX2s_a3 {kd : pm_K} {mr : pm_R} {h : Nat} (t : TX2s kd mr h) : kd[h + 4]? = some (1, 256) := t.2.2.2.2.2.2.2.2.1
theorem TX2s_r4 {kd : pm_K} {mr : pm_R} {h : Nat} (t : TX2s kd mr h) : mr h 4 = some (h + 5) := t.2.2.2.2.2.2.2.2.2.1
theorem TX2s_a4 {kd : pm_K} {mr : pm_R} {h : Nat} (t : TX2s kd mr h) : kd[h + 5]? = some (2, 64) := t.2.2.2.2.2.2.2.2.2.2.1
theorem TX2s_r5 {kd : pm_K} {mr : pm_R} {h : Nat} (t : TX2s kd mr h) : mr h 5 = some (h + 6) := t.2.2.2.2.2.2.2.2.2.2.2.1
theorem TX2s_a5 {kd : pm_K} {mr : pm_R} {h : Nat} (t : TX2s kd mr h) : kd[h + 6]? = some (2, 64) := t.2.2.2.2.2.2.2.2.2.2.2.2
def TX4s (kd : pm_K) (mr : pm_R) (h : Nat) : Prop := kd[h]? = some (0, 4) ∧ mr h 0 = some (h + 1) ∧ kd[h + 1]? = some (1, 228) ∧ mr h 1 = some (h + 2) ∧ kd[h + 2]? = some (1, 228) ∧ mr h 2 = some (h + 3) ∧ kd[h + 3]? = some (1, 3705)
theorem TX4s_k {kd : pm_K} {mr : pm_R} {h : Nat} (t : TX4s kd mr h) : kd[h]? = some (0, 4) := t.1
theorem TX4s_r0 {kd : pm_K} {mr : pm_R} {h : Nat} (t : TX4s kd mr h) : mr h 0 = some (h + 1) := t.2.1
theorem TX4s_a0 {kd : pm_K} {mr : pm_R} {h : Nat} (t : TX4s kd mr h) : kd[h + 1]? = some (1, 228) := t.2.2.1
theorem TX4s_r1 {kd : pm_K} {mr : pm_R} {h : Nat} (t : TX4s kd mr h) : mr h 1 = some (h + 2) := t.2.2.2.1
theorem TX4s_a1 {kd : pm_K} {mr : pm_R} {h : Nat} (t : TX4s kd mr h) : kd[h + 2]? = some (1, 228) := t.2.2.2.2.1
theorem TX4s_r2 {kd : pm_K} {mr : pm_R} {h : Nat} (t : TX4s kd mr h) : mr h 2 = some (h + 3) := t.2.2.2.2.2.1
theorem TX4s_a2 {kd : pm_K} {mr : pm_R} {h : Nat} (t : TX4s kd mr h) : kd[h + 3]? = some (1, 3705) := t.2.2.2.2.2.2
def TX9s (kd : pm_K) (mr : pm_R) (h : Nat) : Prop := kd[h]? = some (0, 9) ∧ mr h 0 = some (h + 1) ∧ kd[h + 1]? = some (3, 600) ∧ mr h 4 = some (h + 2) ∧ kd[h + 2]? = some (1, 4) ∧ mr h 5 = some (h + 3) ∧ kd[h + 3]? = some (5, 2) ∧ mr (h + 3) 0 = some (h + 7) ∧ TX0s kd mr (h + 7) ∧ mr (h + 3) 1 = some (h + 26) ∧ TX0s kd mr (h + 26) ∧ mr h 6 = some (h + 4) ∧ kd[h + 4]? = some (6, 2) ∧ mr (h + 4) 0 = some (h + 13) ∧ TX6s kd mr (h + 13) ∧ mr (h + 4) 1 = some (h + 32) ∧ TX6s kd mr (h + 32) ∧ mr h 7 = some (h + 5) ∧ kd[h + 5]? = some (7, 2) ∧ mr (h + 5) 0 = some (h + 17) ∧ TX10s kd mr (h + 17) ∧ mr (h + 5) 1 = some (h + 36) ∧ TX10s kd mr (h + 36) ∧ mr h 8 = some (h + 6) ∧ kd[h + 6]? = some (6, 2) ∧ mr (h + 6) 0 = some (h + 22) ∧ TX6s kd mr (h + 22) ∧ mr (h + 6) 1 = some (h + 41) ∧ TX6s kd mr (h + 41)
theorem TX9s_k {kd : pm_K} {mr : pm_R} {h : Nat} (t : TX9s kd mr h) : kd[h]? = some (0, 9) := t.1
theorem TX9s_r0 {kd : pm_K} {mr : pm_R} {h : Nat} (t : TX9s kd mr h) : mr h 0 = some (h + 1) := t.2.1
theorem TX9s_a0 {kd : pm_K} {mr : pm_R} {h : Nat} (t : TX9s kd mr h) : kd[h + 1]? = some (3, 600) := t.2.2.1
theorem TX9s_r4 {kd : pm_K} {mr : pm_R} {h : Nat} (t : TX9s kd mr h) : mr h 4 = some (h + 2) := t.2.2.2.1
theorem TX9s_a4 {kd : pm_K} {mr : pm_R} {h : Nat} (t : TX9s kd mr h) : kd[h + 2]? = some (1, 4) := t.2.2.2.2.1
theorem TX9s_r5 {kd : pm_K} {mr : pm_R} {h : Nat} (t : TX9s kd mr h) : mr h 5 = some (h + 3) := t.2.2.2.2.2.1
theorem TX9s_a5 {kd : pm_K} {mr : pm_R} {h : Nat} (t : TX9s kd mr h) : kd[h + 3]? = some (5, 2) := t.2.2.2.2.2.2.1
theorem TX9s_e3_0 {kd : pm_K} {mr : pm_R} {h : Nat} (t : TX9s kd mr h) : mr (h + 3) 0 = some (h + 7) := t.2.2.2.2.2.2.2.1
theorem TX9s_o3_0 {kd : pm_K} {mr : pm_R} {h : Nat} (t : TX9s kd mr h) : TX0s kd mr (h + 7) := t.2.2.2.2.2.2.2.2.1
theorem TX9s_e3_1 {kd : pm_K} {mr : pm_R} {h : Nat} (t : TX9s kd mr h) : mr (h + 3) 1 = some (h + 26) := t.2.2.2.2.2.2.2.2.2.1
theorem TX9s_o3_1 {kd : pm_K} {mr : pm_R} {h : Nat} (t : TX9s kd mr h) : TX0s kd mr (h + 26) := t.2.2.2.2.2.2.2.2.2.2.1
theorem TX9s_r6 {kd : pm_K} {mr : pm_R} {h : Nat} (t : TX9s kd mr h) : mr h 6 = some (h + 4) := t.2.2.2.2.2.2.2.2.2.2.2.1
theorem TX9s_a6 {kd : pm_K} {mr : pm_R} {h : Nat} (t : TX9s kd mr h) : kd[h + 4]? = some (6, 2) := t.2.2.2.2.2.2.2.2.2.2.2.2.1
theorem TX9s_e4_0 {kd : pm_K} {mr : pm_R} {h : Nat} (t : TX9s kd mr h) : mr (h + 4) 0 = some (h + 13) := t.2.2.2.2.2.2.2.2.2.2.2.2.2.1
theorem TX9s_o4_0 {kd : pm_K} {mr : pm_R} {h : Nat} (t : TX9s kd mr h) : TX6s kd mr (h + 13) := t.2.2.2.2.2.2.2.2.2.2.2.2.2.2.1
theorem TX9s_e4_1 {kd : pm_K} {mr : pm_R} {h : Nat} (t : TX9s kd mr h) : mr (h + 4) 1 = some (h + 32) := t.2.2.2.2.2.2.2.2.2.2.2.2.2.2.2.1
theorem TX9s_o4_1 {kd : pm_K} {mr : pm_R} {h : Nat} (t : TX9s kd mr h) : TX6s kd mr (h + 32) := t.2.2.2.2.2.2.2.2.2.2.2.2.2.2.2.2.1
theorem TX9s_r7 {kd : pm_K} {mr : pm_R} {h : Nat} (t : TX9s kd mr h) : mr h 7 = some (h + 5) := t.2.2.2.2.2.2.2.2.2.2.2.2.2.2.2.2.2.1
theorem TX9s_a7 {kd : pm_K} {mr : pm_R} {h : Nat} (t : TX9s kd mr h) : kd[h + 5]? = some (7, 2) := t.2.2.2.2.2.2.2.2.2.2.2.2.2.2.2.2.2.2.1
theorem TX9s_e5_0 {kd : pm_K} {mr : pm_R} {h : Nat} (t : TX9s kd mr h) : mr (h + 5) 0 = some (h + 17) := t.2.2.2.2.2.2.2.2.2.2.2.2.2.2.2.2.2.2.2.1
theorem TX9s_o5_0 {kd : pm_K} {mr : pm_R} {h : Nat} (t : TX9s kd mr h) : TX10s kd mr (h + 17) := t.2.2.2.2.2.2.2.2.2.2.2.2.2.2.2.2.2.2.2.2.1
theorem TX9s_e5_1 {kd : pm_K} {mr : pm_R} {h : Nat} (t : TX9s kd mr h) : mr (h + 5) 1 = some (h + 36) := t.2.2.2.2.2.2.2.2.2.2.2.2.2.2.2.2.2.2.2.2.2.1
theorem TX9s_o5_1 {kd : pm_K} {mr : pm_R} {h : Nat} (t : TX9s kd mr h) : TX10s kd mr (h + 36) := t.2.2.2.2.2.2.2.2.2.2.2.2.2.2.2.2.2.2.2.2.2.2.1
theorem TX9s_r8 {kd : pm_K} {mr : pm_R} {h : Nat} (t : TX9s kd mr h) : mr h 8 = some (h + 6) := t.2.2.2.2.2.2.2.2.2.2.2.2.2.2.2.2.2.2.2.2.2.2.2.1
theorem TX9s_a8 {kd : pm_K} {mr : pm_R} {h : Nat} (t : TX9s kd mr h) : kd[h + 6]? = some (6, 2) := t.2.2.2.2.2.2.2.2.2.2.2.2.2.2.2.2.2.2.2.2.2.2.2.2.1
theorem TX9s_e6_0 {kd : pm_K} {mr : pm_R} {h : Nat} (t : TX9s kd mr h) : mr (h + 6) 0 = some (h + 22) := t.2.2.2.2.2.2.2.2.2.2.2.2.2.2.2.2.2.2.2.2.2.2.2.2.2.1
theorem TX9s_o6_0 {kd : pm_K} {mr : pm_R} {h : Nat} (t : TX9s kd mr h) : TX6s kd mr (h + 22) := t.2.2.2.2.2.2.2.2.2.2.2.2.2.2.2.2.2.2.2.2.2.2.2.2.2.2.1
theorem TX9s_e6_1 {kd : pm_K} {mr : pm_R} {h : Nat} (t : TX9s kd mr h) : mr (h + 6) 1 = some (h + 41) := t.2.2.2.2.2.2.2.2.2.2.2.2.2.2.2.2.2.2.2.2.2.2.2.2.2.2.2.1
theorem TX9s_o6_1 {kd : pm_K} {mr : pm_R} {h : Nat} (t : TX9s kd mr h) : TX6s kd mr (h + 41) := t.2.2.2.2.2.2.2.2.2.2.2.2.2.2.2.2.2.2.2.2.2.2.2.2.2.2.2.2
def TX5s (kd : pm_K) (mr : pm_R) (h : Nat) : Prop := kd[h]? = some (0, 5) ∧ mr h 0 = some (h + 1) ∧ kd[h + 1]? = some (3, 600) ∧ mr h 8 = some (h + 2) ∧ TX0s kd mr (h + 2) ∧ mr h 9 = some (h + 8) ∧ TX6s kd mr (h + 8) ∧ mr h 10 = some (h + 12) ∧ TX10s kd mr (h + 12)
theorem TX5s_k {kd : pm_K} {mr : pm_R} {h : Nat} (t : TX5s kd mr h) : kd[h]? = some (0, 5) := t.1
theorem TX5s_r0 {kd : pm_K} {mr : pm_R} {h : Nat} (t : TX5s kd mr h) : mr h 0 = some (h + 1) := t.2.1
theorem TX5s_a0 {kd : pm_K} {mr : pm_R} {h : Nat} (t : TX5s kd mr h) : kd[h + 1]? = some (3, 600) := t.2.2.1
theorem TX5s_r8 {kd : pm_K} {mr : pm_R} {h : Nat} (t : TX5s kd mr h) : mr h 8 = some (h + 2) := t.2.2.2.1
theorem TX5s_a8 {kd : pm_K} {mr : pm_R} {h : Nat} (t : TX5s kd mr h) : TX0s kd mr (h + 2) := t.2.2.2.2.1
theorem TX5s_r9 {kd : pm_K} {mr : pm_R} {h : Nat} (t : TX5s kd mr h) : mr h 9 = some (h + 8) := t.2.2.2.2.2.1
theorem TX5s_a9 {kd : pm_K} {mr : pm_R} {h : Nat} (t : TX5s kd mr h) : TX6s kd mr (h + 8) := t.2.2.2.2.2.2.1
theorem TX5s_r10 {kd : pm_K} {mr : pm_R} {h : Nat} (t : TX5s kd mr h) : mr h 10 = some (h + 12) := t.2.2.2.2.2.2.2.1
theorem TX5s_a10 {kd : pm_K} {mr : pm_R} {h : Nat} (t : TX5s kd mr h) : TX10s kd mr (h + 12) := t.2.2.2.2.2.2.2.2
def TX11s (kd : pm_K) (mr : pm_R) (h : Nat) : Prop := kd[h]? = some (0, 11) ∧ mr h 0 = some (h + 1) ∧ TX9s kd mr (h + 1) ∧ mr h 1 = some (h + 46) ∧ kd[h + 46]? = some (8, 3) ∧ mr (h + 46) 0 = some (h + 47) ∧ TX9s kd mr (h + 47) ∧ mr (h + 46) 1 = some (h + 92) ∧ TX9s kd mr (h + 92) ∧ mr (h + 46) 2 = some (h + 137) ∧ TX9s kd mr (h + 137) ∧ mr h 2 = some (h + 182) ∧ kd[h + 182]? = some (4, 3) ∧ mr h 3 = some (h + 183) ∧ TX5s kd mr (h + 183) ∧ mr h 4 = some (h + 200) ∧ TX7s kd mr (h + 200) ∧ mr h 5 = some (h + 202) ∧ TX1s kd mr (h + 202) ∧ mr h 6 = some (h + 208) ∧ TX3s kd mr (h + 208) ∧ mr h 7 = some (h + 215) ∧ TX8s kd mr (h + 215) ∧ mr h 8 = some (h + 222) ∧ TX2s kd mr (h + 222) ∧ mr h 9 = some (h + 229) ∧ TX4s kd mr (h + 229) ∧ mr h 10 = some (h + 234) ∧ kd[h + 234]? = some (1, 256)
theorem TX11s_k {kd : pm_K} {mr : pm_R} {h : Nat} (t : TX11s kd mr h) : kd[h]? = some (0, 11) := t.1
theorem TX11s_r0 {kd : pm_K} {mr : pm_R} {h : Nat} (t : TX11s kd mr h) : mr h 0 = some (h + 1) := t.2.1
theorem TX11s_a0 {kd : pm_K} {mr : pm_R} {h : Nat} (t : TX11s kd mr h) : TX9s kd mr (h + 1) := t.2.2.1
theorem TX11s_r1 {kd : pm_K} {mr : pm_R} {h : Nat} (t : TX11s kd mr h) : mr h 1 = some (h + 46) := t.2.2.2.1
theorem TX11s_a1 {kd : pm_K} {mr : pm_R} {h : Nat} (t : TX11s kd mr h) : kd[h + 46]? = some (8, 3) := t.2.2.2.2.1
theorem TX11s_e46_0 {kd : pm_K} {mr : pm_R} {h : Nat} (t : TX11s kd mr h) : mr (h + 46) 0 = some (h + 47) := t.2.2.2.2.2.1
theorem TX11s_o46_0 {kd : pm_K} {mr : pm_R} {h : Nat} (t : TX11s kd mr h) : TX9s kd mr (h + 47) := t.2.2.2.2.2.2.1
theorem TX11s_e46_1 {kd : pm_K} {mr : pm_R} {h : Nat} (t : TX11s kd mr h) : mr (h + 46) 1 = some (h + 92) := t.2.2.2.2.2.2.2.1
theorem TX11s_o46_1 {kd : pm_K} {mr : pm_R} {h : Nat} (t : TX11s kd mr h) : TX9s kd mr (h + 92) := t.2.2.2.2.2.2.2.2.1
theorem TX11s_e46_2 {kd : pm_K} {mr : pm_R} {h : Nat} (t : TX11s kd mr h) : mr (h + 46) 2 = some (h + 137) := t.2.2.2.2.2.2.2.2.2.1
theorem TX11s_o46_2 {kd : pm_K} {mr : pm_R} {h : Nat} (t : TX11s kd mr h) : TX9s kd mr (h + 137) := t.2.2.2.2.2.2.2.2.2.2.1
theorem TX11s_r2 {kd : pm_K} {mr : pm_R} {h : Nat} (t : TX11s kd mr h) : mr h 2 = some (h + 182) := t.2.2.2.2.2.2.2.2.2.2.2.1
theorem TX11s_a2 {kd : pm_K} {mr : pm_R} {h : Nat} (t : TX11s kd mr h) : kd[h + 182]? = some (4, 3) := t.2.2.2.2.2.2.2.2.2.2.2.2.1
theorem TX11s_r3 {kd : pm_K} {mr : pm_R} {h : Nat} (t : TX11s kd mr h) : mr h 3 = some (h + 183) := t.2.2.2.2.2.2.2.2.2.2.2.2.2.1
theorem TX11s_a3 {kd : pm_K} {mr : pm_R} {h : Nat} (t : TX11s kd mr h) : TX5s kd mr (h + 183) := t.2.2.2.2.2.2.2.2.2.2.2.2.2.2.1
theorem TX11s_r4 {kd : pm_K} {mr : pm_R} {h : Nat} (t : TX11s kd mr h) : mr h 4 = some (h + 200) := t.2.2.2.2.2.2.2.2.2.2.2.2.2.2.2.1
theorem TX11s_a4 {kd : pm_K} {mr : pm_R} {h : Nat} (t : TX11s kd mr h) : TX7s kd mr (h + 200) := t.2.2.2.2.2.2.2.2.2.2.2.2.2.2.2.2.1
theorem TX11s_r5 {kd : pm_K} {mr : pm_R} {h : Nat} (t : TX11s kd mr h) : mr h 5 = some (h + 202) := t.2.2.2.2.2.2.2.2.2.2.2.2.2.2.2.2.2.1
theorem TX11s_a5 {kd : pm_K} {mr : pm_R} {h : Nat} (t : TX11s kd mr h) : TX1s kd mr (h + 202) := t.2.2.2.2.2.2.2.2.2.2.2.2.2.2.2.2.2.2.1
theorem TX11s_r6 {kd : pm_K} {mr : pm_R} {h : Nat} (t : TX11s kd mr h) : mr h 6 = some (h + 208) := t.2.2.2.2.2.2.2.2.2.2.2.2.2.2.2.2.2.2.2.1
theorem TX11s_a6 {kd : pm_K} {mr : pm_R} {h : Nat} (t : TX11s kd mr h) : TX3s kd mr (h + 208) := t.2.2.2.2.2.2.2.2.2.2.2.2.2.2.2.2.2.2.2.2.1
theorem TX11s_r7 {kd : pm_K} {mr : pm_R} {h : Nat} (t : TX11s kd mr h) : mr h 7 = some (h + 215) := t.2.2.2.2.2.2.2.2.2.2.2.2.2.2.2.2.2.2.2.2.2.1
theorem TX11s_a7 {kd : pm_K} {mr : pm_R} {h : Nat} (t : TX11s kd mr h) : TX8s kd mr (h + 215) := t.2.2.2.2.2.2.2.2.2.2.2.2.2.2.2.2.2.2.2.2.2.2.1
theorem TX11s_r8 {kd : pm_K} {mr : pm_R} {h : Nat} (t : TX11s kd mr h) : mr h 8 = some (h + 222) := t.2.2.2.2.2.2.2.2.2.2.2.2.2.2.2.2.2.2.2.2.2.2.2.1
theorem TX11s_a8 {kd : pm_K} {mr : pm_R} {h : Nat} (t : TX11s kd mr h) : TX2s kd mr (h + 222) := t.2.2.2.2.2.2.2.2.2.2.2.2.2.2.2.2.2.2.2.2.2.2.2.2.1
theorem TX11s_r9 {kd : pm_K} {mr : pm_R} {h : Nat} (t : TX11s kd mr h) : mr h 9 = some (h + 229) := t.2.2.2.2.2.2.2.2.2.2.2.2.2.2.2.2.2.2.2.2.2.2.2.2.2.1
theorem TX11s_a9 {kd : pm_K} {mr : pm_R} {h : Nat} (t : TX11s kd mr h) : TX4s kd mr (h + 229) := t.2.2.2.2.2.2.2.2.2.2.2.2.2.2.2.2.2.2.2.2.2.2.2.2.2.2.1
theorem TX11s_r10 {kd : pm_K} {mr : pm_R} {h : Nat} (t : TX11s kd mr h) : mr h 10 = some (h + 234) := t.2.2.2.2.2.2.2.2.2.2.2.2.2.2.2.2.2.2.2.2.2.2.2.2.2.2.2.1
theorem TX11s_a10 {kd : pm_K} {mr : pm_R} {h : Nat} (t : TX11s kd mr h) : kd[h + 234]? = some (1, 256) := t.2.2.2.2.2.2.2.2.2.2.2.2.2.2.2.2.2.2.2.2.2.2.2.2.2.2.2.2
def TX12s (kd : pm_K) (mr : pm_R) (h : Nat) : Prop := kd[h]? = some (0, 12) ∧ mr h 1 = some (h + 1) ∧ kd[h + 1]? = some (3, 2400) ∧ mr h 2 = some (h + 2) ∧ kd[h + 2]? = some (1, 4) ∧ mr h 3 = some (h + 3) ∧ kd[h + 3]? = some (1, 4) ∧ mr h 4 = some (h + 4) ∧ kd[h + 4]? = some (1, 4) ∧ mr h 5 = some (h + 5) ∧ kd[h + 5]? = some (1, 16) ∧ mr h 6 = some (h + 6) ∧ kd[h + 6]? = some (1, 424) ∧ mr h 7 = some (h + 7) ∧ kd[h + 7]? = some (1, 968) ∧ mr h 8 = some (h + 8) ∧ kd[h + 8]? = some (1, 312) ∧ mr h 9 = some (h + 9) ∧ kd[h + 9]? = some (1, 248) ∧ mr h 19 = some (h + 10) ∧ kd[h + 10]? = some (1, 121) ∧ mr h 20 = some (h + 11) ∧ kd[h + 11]? = some (1, 3) ∧ mr h 31 = some (h + 12) ∧ kd[h + 12]? = some (1, 64) ∧ mr h 32 = some (h + 13) ∧ kd[h + 13]? = some (1, 6) ∧ mr h 33 = some (h + 14) ∧ kd[h + 14]? = some (1, 6) ∧ mr h 34 = some (h + 15) ∧ kd[h + 15]? = some (1, 6) ∧ mr h 35 = some (h + 16) ∧ kd[h + 16]? = some (1, 6) ∧ mr h 39 = some (h + 17) ∧ kd[h + 17]? = some (2, 64) ∧ mr h 40 = some (h + 18) ∧ kd[h + 18]? = some (2, 64) ∧ mr h 43 = some (h + 19) ∧ kd[h + 19]? = some (1, 4096) ∧ mr h 44 = some (h + 20) ∧ kd[h + 20]? = some (1, 4096) ∧ mr h 45 = some (h + 21) ∧ kd[h + 21]? = some (1, 40625) ∧ mr h 47 = some (h + 22) ∧ kd[h + 22]? = some (1, 256) ∧ mr h 51 = some (h + 23) ∧ kd[h + 23]? = some (1, 64) ∧ mr h 52 = some (h + 24) ∧ kd[h + 24]? = some (1, 64) ∧ mr h 53 = some (h + 25) ∧ kd[h + 25]? = some (1, 64) ∧ mr h 54 = some (h + 26) ∧ kd[h + 26]? = some (1, 128) ∧ mr h 55 = some (h + 27) ∧ kd[h + 27]? = some (1, 128) ∧ mr h 57 = some (h + 28) ∧ kd[h + 28]? = some (4, 4096) ∧ mr h 58 = some (h + 29) ∧ kd[h + 29]? = some (1, 49) ∧ mr h 59 = some (h + 30) ∧ kd[h + 30]? = some (1, 448) ∧ mr h 60 = some (h + 31) ∧ kd[h + 31]? = some (4, 3)
theorem TX12s_k {kd : pm_K} {mr : pm_R} {h : Nat} (t : TX12s kd mr h) : kd[h]? = some (0, 12) := t.1
theorem TX12s_r1 {kd : pm_K} {mr : pm_R} {h : Nat} (t : TX12s kd mr h) : mr h 1 = some (h + 1) := t.2.1
theorem TX12s_a1 {kd : pm_K} {mr : pm_R} {h : Nat} (t : TX12s kd mr h) : kd[h + 1]? = some (3, 2400) := t.2.2.1
theorem TX12s_r2 {kd : pm_K} {mr : pm_R} {h : Nat} (t : TX12s kd mr h) : mr h 2 = some (h + 2) := t.2.2.2.1
theorem TX12s_a2 {kd : pm_K} {mr : pm_R} {h : Nat} (t : TX12s kd mr h) : kd[h + 2]? = some (1, 4) := t.2.2.2.2.1
theorem TX12s_r3 {kd : pm_K} {mr : pm_R} {h : Nat} (t : TX12s kd mr h) : mr h 3 = some (h + 3) := t.2.2.2.2.2.1
theorem TX12s_a3 {kd : pm_K} {mr : pm_R} {h : Nat} (t : TX12s kd mr h) : kd[h + 3]? = some (1, 4) := t.2.2.2.2.2.2.1
theorem TX12s_r4 {kd : pm_K} {mr : pm_R} {h : Nat} (t : TX12s kd mr h) : mr h 4 = some (h + 4) := t.2.2.2.2.2.2.2.1
theorem TX12s_a4 {kd : pm_K} {mr : pm_R} {h : Nat} (t : TX12s kd mr h) : kd[h + 4]? = some (1, 4) := t.2.2.2.2.2.2.2.2.1
theorem TX12s_r5 {kd : pm_K} {mr : pm_R} {h : Nat} (t : TX12s kd mr h) : mr h 5 = some (h + 5) := t.2.2.2.2.2.2.2.2.2.1
theorem TX12s_a5 {kd : pm_K} {mr : pm_R} {h : Nat} (t : TX12s kd mr h) : kd[h + 5]? = some (1, 16) := t.2.2.2.2.2.2.2.2.2.2.1
theorem TX12s_r6 {kd : pm_K} {mr : pm_R} {h : Nat} (t : TX12s kd mr h) : mr h 6 = some (h + 6) := t.2.2.2.2.2.2.2.2.2.2.2.1
theorem TX12s_a6 {kd : pm_K} {mr : pm_R} {h : Nat} (t : TX12s kd mr h) : kd[h + 6]? = some (1, 424) := t.2.2.2.2.2.2.2.2.2.2.2.2.1
theorem TX12s_r7 {kd : pm_K} {mr : pm_R} {h : Nat} (t : TX12s kd mr h) : mr h 7 = some (h + 7) := t.2.2.2.2.2.2.2.2.2.2.2.2.2.1
theorem TX12s_a7 {kd : pm_K} {mr : pm_R} {h : Nat} (t : TX12s kd mr h) : kd[h + 7]? = some (1, 968) := t.2.2.2.2.2.2.2.2.2.2.2.2.2.2.1
theorem TX12s_r8 {kd : pm_K} {mr : pm_R} {h : Nat} (t : TX12s kd mr h) : mr h 8 = some (h + 8) := t.2.2.2.2.2.2.2.2.2.2.2.2.2.2.2.1
theorem TX12s_a8 {kd : pm_K} {mr : pm_R} {h : Nat} (t : TX12s kd mr h) : kd[h + 8]? = some (1, 312) := t.2.2.2.2.2.2.2.2.2.2.2.2.2.2.2.2.1
theorem TX12s_r9 {kd : pm_K} {mr : pm_R} {h : Nat} (t : TX12s kd mr h) : mr h 9 = some (h + 9) := t.2.2.2.2.2.2.2.2.2.2.2.2.2.2.2.2.2.1
theorem TX12s_a9 {kd : pm_K} {mr : pm_R} {h : Nat} (t : TX12s kd mr h) : kd[h + 9]? = some (1, 248) := t.2.2.2.2.2.2.2.2.2.2.2.2.2.2.2.2.2.2.1
theorem TX12s_r19 {kd : pm_K} {mr : pm_R} {h : Nat} (t : TX12s kd mr h) : mr h 19 = some (h + 10) := t.2.2.2.2.2.2.2.2.2.2.2.2.2.2.2.2.2.2.2.1
theorem TX12s_a19 {kd : pm_K} {mr : pm_R} {h : Nat} (t : TX12s kd mr h) : kd[h + 10]? = some (1, 121) := t.2.2.2.2.2.2.2.2.2.2.2.2.2.2.2.2.2.2.2.2.1
theorem TX12s_r20 {kd : pm_K} {mr : pm_R} {h : Nat} (t : TX12s kd mr h) : mr h 20 = some (h + 11) := t.2.2.2.2.2.2.2.2.2.2.2.2.2.2.2.2.2.2.2.2.2.1
theorem TX12s_a20 {kd : pm_K} {mr : pm_R} {h : Nat} (t : TX12s kd mr h) : kd[h + 11]? = some (1, 3) := t.2.2.2.2.2.2.2.2.2.2.2.2.2.2.2.2.2.2.2.2.2.2.1
theorem TX12s_r31 {kd : pm_K} {mr : pm_R} {h : Nat} (t : TX12s kd mr h) : mr h 31 = some (h + 12) := t.2.2.2.2.2.2.2.2.2.2.2.2.2.2.2.2.2.2.2.2.2.2.2.1
theorem TX12s_a31 {kd : pm_K} {mr : pm_R} {h : Nat} (t : TX12s kd mr h) : kd[h + 12]? = some (1, 64) := t.2.2.2.2.2.2.2.2.2.2.2.2.2.2.2.2.2.2.2.2.2.2.2.2.1
theorem TX12s_r32 {kd : pm_K} {mr : pm_R} {h : Nat} (t : TX12s kd mr h) : mr h 32 = some (h + 13) := t.2.2.2.2.2.2.2.2.2.2.2.2.2.2.2.2.2.2.2.2.2.2.2.2.2.1
theorem TX12s_a32 {kd : pm_K} {mr : pm_R} {h : Nat} (t : TX12s kd mr h) : kd[h + 13]? = some (1, 6) := t.2.2.2.2.2.2.2.2.2.2.2.2.2.2.2.2.2.2.2.2.2.2.2.2.2.2.1
theorem TX12s_r33 {kd : pm_K} {mr : pm_R} {h : Nat} (t : TX12s kd mr h) : mr h 33 = some (h + 14) := t.2.2.2.2.2.2.2.2.2.2.2.2.2.2.2.2.2.2.2.2.2.2.2.2.2.2.2.1
theorem TX12s_a33 {kd : pm_K} {mr : pm_R} {h : Nat} (t : TX12s kd mr h) : kd[h + 14]? = some (1, 6) := t.2.2.2.2.2.2.2.2.2.2.2.2.2.2.2.2.2.2.2.2.2.2.2.2.2.2.2.2.1
theorem TX12s_r34 {kd : pm_K} {mr : pm_R} {h : Nat} (t : TX12s kd mr h) : mr h 34 = some (h + 15) := t.2.2.2.2.2.2.2.2.2.2.2.2.2.2.2.2.2.2.2.2.2.2.2.2.2.2.2.2.2.1
theorem TX12s_a34 {kd : pm_K} {mr : pm_R} {h : Nat} (t : TX12s kd mr h) : kd[h + 15]? = some (1, 6) := t.2.2.2.2.2.2.2.2.2.2.2.2.2.2.2.2.2.2.2.2.2.2.2.2.2.2.2.2.2.2.1
theorem TX12s_r35 {kd : pm_K} {mr : pm_R} {h : Nat} (t : TX12s kd mr h) : mr h 35 = some (h + 16) := t.2.2.2.2.2.2.2.2.2.2.2.2.2.2.2.2.2.2.2.2.2.2.2.2.2.2.2.2.2.2.2.1
theorem TX12s_a35 {kd : pm_K} {mr : pm_R} {h : Nat} (t : TX12s kd mr h) : kd[h + 16]? = some (1, 6) := t.2.2.2.2.2.2.2.2.2.2.2.2.2.2.2.2.2.2.2.2.2.2.2.2.2.2.2.2.2.2.2.2.1
theorem TX12s_r39 {kd : pm_K} {mr : pm_R} {h : Nat} (t : TX12s kd mr h) : mr h 39 = some (h + 17) := t.2.2.2.2.2.2.2.2.2.2.2.2.2.2.2.2.2.2.2.2.2.2.2.2.2.2.2.2.2.2.2.2.2.1
theorem TX12s_a39 {kd : pm_K} {mr : pm_R} {h : Nat} (t : TX12s kd mr h) : kd[h + 17]? = some (2, 64) := t.2.2.2.2.2.2.2.2.2.2.2.2.2.2.2.2.2.2.2.2.2.2.2.2.2.2.2.2.2.2.2.2.2.2.1
theorem TX12s_r40 {kd : pm_K} {mr : pm_R} {h : Nat} (t : TX12s kd mr h) : mr h 40 = some (h + 18) := t.2.2.2.2.2.2.2.2.2.2.2.2.2.2.2.2.2.2.2.2.2.2.2.2.2.2.2.2.2.2.2.2.2.2.2.1
theorem TX12s_a40 {kd : pm_K} {mr : pm_R} {h : Nat} (t : TX12s kd mr h) : kd[h + 18]? = some (2, 64) := t.2.2.2.2.2.2.2.2.2.2.2.2.2.2.2.2.2.2.2.2.2.2.2.2.2.2.2.2.2.2.2.2.2.2.2.2.1
theorem TX12s_r43 {kd : pm_K} {mr : pm_R} {h : Nat} (t : TX12s kd mr h) : mr h 43 = some (h + 19) := t.2.2.2.2.2.2.2.2.2.2.2.2.2.2.2.2.2.2.2.2.2.2.2.2.2.2.2.2.2.2.2.2.2.2.2.2.2.1
theorem TX12s_a43 {kd : pm_K} {mr : pm_R} {h : Nat} (t : TX12s kd mr h) : kd[h + 19]? = some (1, 4096) := t.2.2.2.2.2.2.2.2.2.2.2.2.2.2.2.2.2.2.2.2.2.2.2.2.2.2.2.2.2.2.2.2.2.2.2.2.2.2.1
theorem TX12s_r44 {kd : pm_K} {mr : pm_R} {h : Nat} (t : TX12s kd mr h) : mr h 44 = some (h + 20) := t.2.2.2.2.2.2.2.2.2.2.2.2.2.2.2.2.2.2.2.2.2.2.2.2.2.2.2.2.2.2.2.2.2.2.2.2.2.2.2.1
theorem TX12s_a44 {kd : pm_K} {mr : pm_R} {h : Nat} (t : TX12s kd mr h) : kd[h + 20]? = some (1, 4096) := t.2.2.2.2.2.2.2.2.2.2.2.2.2.2.2.2.2.2.2.2.2.2.2.2.2.2.2.2.2.2.2.2.2.2.2.2.2.2.2.2.1
theorem TX12s_r45 {kd : pm_K} {mr : pm_R} {h : Nat} (t : TX12s kd mr h) : mr h 45 = some (h + 21) := t.2.2.2.2.2.2.2.2.2.2.2.2.2.2.2.2.2.2.2.2.2.2.2.2.2.2.2.2.2.2.2.2.2.2.2.2.2.2.2.2.2.1
theorem TX12s_a45 {kd : pm_K} {mr : pm_R} {h : Nat} (t : TX12s kd mr h) : kd[h + 21]? = some (1, 40625) := t.2.2.2.2.2.2.2.2.2.2.2.2.2.2.2.2.2.2.2.2.2.2.2.2.2.2.2.2.2.2.2.2.2.2.2.2.2.2.2.2.2.2.1
theorem TX12s_r47 {kd : pm_K} {mr : pm_R} {h : Nat} (t : TX12s kd mr h) : mr h 47 = some (h + 22) := t.2.2.2.2.2.2.2.2.2.2.2.2.2.2.2.2.2.2.2.2.2.2.2.2.2.2.2.2.2.2.2.2.2.2.2.2.2.2.2.2.2.2.2.1
theorem TX12s_a47 {kd : pm_K} {mr : pm_R} {h : Nat} (t : TX12s kd mr h) : kd[h + 22]? = some (1, 256) := t.2.2.2.2.2.2.2.2.2.2.2.2.2.2.2.2.2.2.2.2.2.2.2.2.2.2.2.2.2.2.2.2.2.2.2.2.2.2.2.2.2.2.2.2.1
theorem TX12s_r51 {kd : pm_K} {mr : pm_R} {h : Nat} (t : TX12s kd mr h) : mr h 51 = some (h + 23) := t.2.2.2.2.2.2.2.2.2.2.2.2.2.2.2.2.2.2.2.2.2.2.2.2.2.2.2.2.2.2.2.2.2.2.2.2.2.2.2.2.2.2.2.2.2.1
theorem TX12s_a51 {kd : pm_K} {mr : pm_R} {h : Nat} (t : TX12s kd mr h) : kd[h + 23]? = some (1, 64) := t.2.2.2.2.2.2.2.2.2.2.2.2.2.2.2.2.2.2.2.2.2.2.2.2.2.2.2.2.2.2.2.2.2.2.2.2.2.2.2.2.2.2.2.2.2.2.1
theorem TX12s_r52 {kd : pm_K} {mr : pm_R} {h : Nat} (t : TX12s kd mr h) : mr h 52 = some (h + 24) := t.2.2.2.2.2.2.2.2.2.2.2.2.2.2.2.2.2.2.2.2.2.2.2.2.2.2.2.2.2.2.2.2.2.2.2.2.2.2.2.2.2.2.2.2.2.2.2.1
theorem TX12s_a52 {kd : pm_K} {mr : pm_R} {h : Nat} (t : TX12s kd mr h) : kd[h + 24]? = some (1, 64) := t.2.2.2.2.2.2.2.2.2.2.2.2.2.2.2.2.2.2.2.2.2.2.2.2.2.2.2.2.2.2.2.2.2.2.2.2.2.2.2.2.2.2.2.2.2.2.2.2.1
theorem TX12s_r53 {kd : pm_K} {mr : pm_R} {h : Nat} (t : TX12s kd mr h) : mr h 53 = some (h + 25) := t.2.2.2.2.2.2.2.2.2.2.2.2.2.2.2.2.2.2.2.2.2.2.2.2.2.2.2.2.2.2.2.2.2.2.2.2.2.2.2.2.2.2.2.2.2.2.2.2.2.1
theorem TX12s_a53 {kd : pm_K} {mr : pm_R} {h : Nat} (t : TX12s kd mr h) : kd[h + 25]? = some (1, 64) := t.2.2.2.2.2.2.2.2.2.2.2.2.2.2.2.2.2.2.2.2.2.2.2.2.2.2.2.2.2.2.2.2.2.2.2.2.2.2.2.2.2.2.2.2.2.2.2.2.2.2.1
theorem TX12s_r54 {kd : pm_K} {mr : pm_R} {h : Nat} (t : TX12s kd mr h) : mr h 54 = some (h + 26) := t.2.2.2.2.2.2.2.2.2.2.2.2.2.2.2.2.2.2.2.2.2.2.2.2.2.2.2.2.2.2.2.2.2.2.2.2.2.2.2.2.2.2.2.2.2.2.2.2.2.2.2.1
theorem TX12s_a54 {kd : pm_K} {mr : pm_R} {h : Nat} (t : TX12s kd mr h) : kd[h + 26]? = some (1, 128) := t.2.2.2.2.2.2.2.2.2.2.2.2.2.2.2.2.2.2.2.2.2.2.2.2.2.2.2.2.2.2.2.2.2.2.2.2.2.2.2.2.2.2.2.2.2.2.2.2.2.2.2.2.1
theorem TX12s_r55 {kd : pm_K} {mr : pm_R} {h : Nat} (t : TX12s kd mr h) : mr h 55 = some (h + 27) := t.2.2.2.2.2.2.2.2.2.2.2.2.2.2.2.2.2.2.2.2.2.2.2.2.2.2.2.2.2.2.2.2.2.2.2.2.2.2.2.2.2.2.2.2.2.2.2.2.2.2.2.2.2.1
theorem TX12s_a55 {kd : pm_K} {mr : pm_R} {h : Nat} (t : TX12s kd mr h) : kd[h + 27]? = some (1, 128) := t.2.2.2.2.2.2.2.2.2.2.2.2.2.2.2.2.2.2.2.2.2.2.2.2.2.2.2.2.2.2.2.2.2.2.2.2.2.2.2.2.2.2.2.2.2.2.2.2.2.2.2.2.2.2.1
theorem TX12s_r57 {kd : pm_K} {mr : pm_R} {h : Nat} (t : TX12s kd mr h) : mr h 57 = some (h + 28) := t.2.2.2.2.2.2.2.2.2.2.2.2.2.2.2.2.2.2.2.2.2.2.2.2.2.2.2.2.2.2.2.2.2.2.2.2.2.2.2.2.2.2.2.2.2.2.2.2.2.2.2.2.2.2.2.1
theorem TX12s_a57 {kd : pm_K} {mr : pm_R} {h : Nat} (t : TX12s kd mr h) : kd[h + 28]? = some (4, 4096) := t.2.2.2.2.2.2.2.2.2.2.2.2.2.2.2.2.2.2.2.2.2.2.2.2.2.2.2.2.2.2.2.2.2.2.2.2.2.2.2.2.2.2.2.2.2.2.2.2.2.2.2.2.2.2.2.2.1
theorem TX12s_r58 {kd : pm_K} {mr : pm_R} {h : Nat} (t : TX12s kd mr h) : mr h 58 = some (h + 29) := t.2.2.2.2.2.2.2.2.2.2.2.2.2.2.2.2.2.2.2.2.2.2.2.2.2.2.2.2.2.2.2.2.2.2.2.2.2.2.2.2.2.2.2.2.2.2.2.2.2.2.2.2.2.2.2.2.2.1
theorem TX12s_a58 {kd : pm_K} {mr : pm_R} {h : Nat} (t : TX12s kd mr h) : kd[h + 29]? = some (1, 49) := t.2.2.2.2.2.2.2.2.2.2.2.2.2.2.2.2.2.2.2.2.2.2.2.2.2.2.2.2.2.2.2.2.2.2.2.2.2.2.2.2.2.2.2.2.2.2.2.2.2.2.2.2.2.2.2.2.2.2.1
theorem TX12s_r59 {kd : pm_K} {mr : pm_R} {h : Nat} (t : TX12s kd mr h) : mr h 59 = some (h + 30) := t.2.2.2.2.2.2.2.2.2.2.2.2.2.2.2.2.2.2.2.2.2.2.2.2.2.2.2.2.2.2.2.2.2.2.2.2.2.2.2.2.2.2.2.2.2.2.2.2.2.2.2.2.2.2.2.2.2.2.2.1
theorem TX12s_a59 {kd : pm_K} {mr : pm_R} {h : Nat} (t : TX12s kd mr h) : kd[h + 30]? = some (1, 448) := t.2.2.2.2.2.2.2.2.2.2.2.2.2.2.2.2.2.2.2.2.2.2.2.2.2.2.2.2.2.2.2.2.2.2.2.2.2.2.2.2.2.2.2.2.2.2.2.2.2.2.2.2.2.2.2.2.2.2.2.2.1
theorem TX12s_r60 {kd : pm_K} {mr : pm_R} {h : Nat} (t : TX12s kd mr h) : mr h 60 = some (h + 31) := t.2.2.2.2.2.2.2.2.2.2.2.2.2.2.2.2.2.2.2.2.2.2.2.2.2.2.2.2.2.2.2.2.2.2.2.2.2.2.2.2.2.2.2.2.2.2.2.2.2.2.2.2.2.2.2.2.2.2.2.2.2.1
theorem TX12s_a60 {kd : pm_K} {mr : pm_R} {h : Nat} (t : TX12s kd mr h) : kd[h + 31]? = some (4, 3) := t.2.2.2.2.2.2.2.2.2.2.2.2.2.2.2.2.2.2.2.2.2.2.2.2.2.2.2.2.2.2.2.2.2.2.2.2.2.2.2.2.2.2.2.2.2.2.2.2.2.2.2.2.2.2.2.2.2.2.2.2.2.2
theorem cl_X0 {M' : pm_M} (h : M'.1.cls = RX0) : pm_cls M' 0 := ⟨_, rfl, h.symm⟩
theorem cl_X6 {M' : pm_M} (h : M'.1.cls = RX6) : pm_cls M' 6 := ⟨_, rfl, h.symm⟩
theorem cl_X10 {M' : pm_M} (h : M'.1.cls = RX10) : pm_cls M' 10 := ⟨_, rfl, h.symm⟩
theorem cl_X7 {M' : pm_M} (h : M'.1.cls = RX7) : pm_cls M' 7 := ⟨_, rfl, h.symm⟩
theorem cl_X1 {M' : pm_M} (h : M'.1.cls = RX1) : pm_cls M' 1 := ⟨_, rfl, h.symm⟩
theorem cl_X3 {M' : pm_M} (h : M'.1.cls = RX3) : pm_cls M' 3 := ⟨_, rfl, h.symm⟩
theorem cl_X8 {M' : pm_M} (h : M'.1.cls = RX8) : pm_cls M' 8 := ⟨_, rfl, h.symm⟩
theorem cl_X2 {M' : pm_M} (h : M'.1.cls = RX2) : pm_cls M' 2 := ⟨_, rfl, h.symm⟩
theorem cl_X4 {M' : pm_M} (h : M'.1.cls = RX4) : pm_cls M' 4 := ⟨_, rfl, h.symm⟩
theorem cl_X9 {M' : pm_M} (h : M'.1.cls = RX9) : pm_cls M' 9 := ⟨_, rfl, h.symm⟩
theorem cl_X5 {M' : pm_M} (h : M'.1.cls = RX5) : pm_cls M' 5 := ⟨_, rfl, h.symm⟩
theorem cl_X11 {M' : pm_M} (h : M'.1.cls = RX11) : pm_cls M' 11 := ⟨_, rfl, h.symm⟩
theorem cl_X12 {M' : pm_M} (h : M'.1.cls = RX12) : pm_cls M' 12 := ⟨_, rfl, h.symm⟩
theorem b2i_01 (b : Bool) : b2i b = 0 ∨ b2i b = 1 := by cases b; exact Or.inl rfl; exact Or.inr rfl
theorem b2i_t : b2i true = 1 := rfl
theorem b2i_f : b2i false = 0 := rfl
theorem vp_dec {i : Int32} {n : Nat} (h : decide (¬ (i < 0 ∨ n ≤ i.toNatClampNeg)) = true) : vp_in i n := of_decide_eq_true (p := ¬ (i < 0 ∨ n ≤ i.toNatClampNeg)) h
