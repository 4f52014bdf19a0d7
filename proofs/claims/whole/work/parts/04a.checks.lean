/-! the checks of the program, by the kernel -/
set_option maxRecDepth 100000 in
theorem aOC_RX0 : aClC aProg aC_RX0 = true := by decide +kernel
set_option maxRecDepth 100000 in
theorem aOC_RX1 : aClC aProg aC_RX1 = true := by decide +kernel
set_option maxRecDepth 100000 in
theorem aOC_RX2 : aClC aProg aC_RX2 = true := by decide +kernel
set_option maxRecDepth 100000 in
theorem aOC_RX3 : aClC aProg aC_RX3 = true := by decide +kernel
set_option maxRecDepth 100000 in
theorem aOC_RX4 : aClC aProg aC_RX4 = true := by decide +kernel
set_option maxRecDepth 100000 in
theorem aOC_RX5 : aClC aProg aC_RX5 = true := by decide +kernel
set_option maxRecDepth 100000 in
theorem aOC_RX6 : aClC aProg aC_RX6 = true := by decide +kernel
set_option maxRecDepth 100000 in
theorem aOC_RX7 : aClC aProg aC_RX7 = true := by decide +kernel
set_option maxRecDepth 100000 in
theorem aOC_RX8 : aClC aProg aC_RX8 = true := by decide +kernel
set_option maxRecDepth 100000 in
theorem aOC_RX9 : aClC aProg aC_RX9 = true := by decide +kernel
set_option maxRecDepth 100000 in
theorem aOC_RX10 : aClC aProg aC_RX10 = true := by decide +kernel
set_option maxRecDepth 100000 in
theorem aOC_RX11 : aClC aProg aC_RX11 = true := by decide +kernel
set_option maxRecDepth 100000 in
theorem aOC_RX12 : aClC aProg aC_RX12 = true := by decide +kernel
set_option maxRecDepth 100000 in
theorem aOC_RJ6 : aClC aProg aC_RJ6 = true := by decide +kernel
set_option maxRecDepth 100000 in
theorem aOC_RJ7 : aClC aProg aC_RJ7 = true := by decide +kernel
set_option maxRecDepth 100000 in
theorem aOC_RL : aClC aProg aC_RL = true := by decide +kernel
